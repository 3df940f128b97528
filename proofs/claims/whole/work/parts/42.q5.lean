section Q5
variable {σ : Sg} {I I' : Nat → Nat → Int32} {L L' : Nat → Nat → Int64}
theorem lN_div {a b : Nat} (ha : a < 2 ^ 62) (hb0 : 0 < b) (hb : b < 2 ^ 62) : lN a / lN b = lN (a / b) := by
  apply Int64.toInt_inj.mp
  have h1 : (lN b).toInt = (b : Int) := pf_lI (by omega)
  have h2 : a / b ≤ a := Nat.div_le_self _ _
  rw [Int64.toInt_div, pf_lI (by omega), h1, pf_lI (by omega)]
  show ((a / b : Nat) : Int).bmod (2 ^ 64) = _
  generalize a / b = q at h2 ⊢
  exact Int.bmod_eq_of_le (by omega) (by omega)
theorem lN_lt' {a b : Nat} (ha : a < 2 ^ 62) (hb : b < 2 ^ 62) : (lN a < lN b) ↔ a < b := by
  rw [Int64.lt_iff_toInt_lt, pf_lI (by omega), pf_lI (by omega)]; omega
theorem lN_eq' {a b : Nat} (ha : a < 2 ^ 62) (hb : b < 2 ^ 62) : (lN a = lN b) ↔ a = b := by
  rw [← Int64.toInt_inj, pf_lI (by omega), pf_lI (by omega)]; omega
theorem ldT1 {T : Nat → Nat} (hT : rT I T) : ldI 434 (1 : Int32) (hk σ I L) = some (nI (T 1)) := ldT hT (i := 1) (by omega)
theorem nTF : ¬ true = false := by decide
/-- a WORTH that grows -/
def gro (v : Nat) : Nat → Nat
  | 0 => v
  | n + 1 => gro v n + gro v n / 10
theorem gro_gt {v : Nat} (h : v < 2 ^ 32) : (0 < lg_cmp (lN v) (2147483647 : Int64)) = (2147483647 < v) := by
  apply propext
  rw [lg_cmp_gt, show (2147483647 : Int64) = lN 2147483647 from rfl, lN_lt' (by omega) (by omega)]
/-- grown -/
theorem q_grown {T N : Nat → Nat} (h : CR σ I L T N) (hm : MI I T N) (x y : Int32) : ∃ v, mX11_grown 100 x y (hk σ I L) = some v ∧ mX12_grown 433 x y (hk σ I L) = some v := by
  have hW := h.2.1
  have h18 := (h.2.2.1.bkH hW).1
  have hsa := h.1.2.1
  unfold mX11_grown mX12_grown
  rw [if_pos s100, cisCount_ok h, obind, bI_if0, if_pos s433, misCount_ok hm.2.1 h18, obind, bI_if0]
  rcases ixn x (N 18) (by omega) with ⟨k, hk', rfl, hd⟩ | hd
  · rw [hd, if_neg nTF, if_neg nTF, L400, show (nI 400 : Int32) = nI 401 - 1 from by decide, in_any y (by omega), obind, bI_if0, show (nI 401 - 1 : Int32) = nI 400 from by decide]
    obtain ⟨_, _, n2, _⟩ := h.2.2.1.2.2.2.2.1 k hk'
    obtain ⟨_, s2, _⟩ := h.2.2.2.2.2 k hk'
    rcases ixn y 401 (by omega) with ⟨n, hn, rfl, hdy⟩ | hdy
    · rw [hdy, if_neg nTF, if_neg (nI_pos (show n < 2 ^ 31 by omega)), c_nlt (show n ≤ 400 by omega) (by omega), gSa, gR_st hsa, obind, RF_st_10 σ hsa, at_r (SH_st2 hsa) (by omega) (by omega), obind, s2, its_2 hm.2.1 (by omega), obind, nI_l (by omega)]
      -- either all stay below, or the first that does not
      cases hf : fstB (fun i => decide (2147483647 < gro (it N k 2) i)) (n + 1) with
      | none =>
        have hb := fstB_none.mp hf
        have hb' : ∀ i, i ≤ n → gro (it N k 2) i ≤ 2147483647 := fun i hi => by have := hb i (by omega); simp at this; omega
        refine ⟨nI (gro (it N k 2) n), ?_, ?_⟩
        · unfold mX11_grown_l37
          refine lp_traj (f := fun s : Int64 × Int32 => mX11_grown_l37f (nI n) (hk σ I L) s.1 s.2) n (fun i => (lN (gro (it N k 2) i), nI i)) _ (fun i hi => ?_) ?_
          · show mX11_grown_l37f (nI n) (hk σ I L) (lN (gro (it N k 2) i)) (nI i) = _
            have := hb' i (by omega)
            unfold mX11_grown_l37f
            rw [c_lt hi (by omega), if_neg (by rw [gro_gt (by omega)]; omega), nzL10, show (10 : Int64) = lN 10 from rfl, lN_div (by omega) (by omega) (by omega), lN_add, nI_1]; rfl
          · show mX11_grown_l37f (nI n) (hk σ I L) (lN (gro (it N k 2) n)) (nI n) = _
            have := hb' n (Nat.le_refl _)
            unfold mX11_grown_l37f mX11_grown_b65
            rw [c_nlt (Nat.le_refl _) (by omega), if_neg (by rw [gro_gt (by omega)]; omega), lN_i, xts]
        · unfold mX12_grown_l32
          refine lp_traj (f := fun s : Int64 × Int32 => mX12_grown_l32f (nI n) (hk σ I L) s.1 s.2) n (fun i => (lN (gro (it N k 2) i), nI i)) _ (fun i hi => ?_) ?_
          · show mX12_grown_l32f (nI n) (hk σ I L) (lN (gro (it N k 2) i)) (nI i) = _
            have := hb' i (by omega)
            have h2 := hb' (i + 1) (by omega)
            have h3 : gro (it N k 2) (i + 1) = gro (it N k 2) i + gro (it N k 2) i / 10 := rfl
            unfold mX12_grown_l32f
            rw [c_lt hi (by omega), nzL10, show (10 : Int64) = lN 10 from rfl, lN_div (by omega) (by omega) (by omega), lN_add, ← h3, if_neg (by rw [gro_gt (by omega)]; omega), nI_1]
          · show mX12_grown_l32f (nI n) (hk σ I L) (lN (gro (it N k 2) n)) (nI n) = _
            unfold mX12_grown_l32f
            rw [c_nlt (Nat.le_refl _) (by omega), lN_i, xts]
      | some m =>
        obtain ⟨hm1, hm2, hm3⟩ := fstB_some.mp hf
        have hgt : 2147483647 < gro (it N k 2) m := of_decide_eq_true hm2
        have hb' : ∀ i, i < m → gro (it N k 2) i ≤ 2147483647 := fun i hi => by have := hm3 i hi; simp at this; omega
        have hm0 : 0 < m := by
          rcases Nat.eq_zero_or_pos m with e | e
          · subst e; have : gro (it N k 2) 0 = it N k 2 := rfl
            omega
          · exact e
        have h3 : gro (it N k 2) (m - 1 + 1) = gro (it N k 2) (m - 1) + gro (it N k 2) (m - 1) / 10 := rfl
        have h4 := hb' (m - 1) (by omega)
        have h5 : m - 1 + 1 = m := by omega
        rw [h5] at h3
        refine ⟨-2, ?_, ?_⟩
        · unfold mX11_grown_l37
          refine lp_traj (f := fun s : Int64 × Int32 => mX11_grown_l37f (nI n) (hk σ I L) s.1 s.2) m (fun i => (lN (gro (it N k 2) i), nI i)) _ (fun i hi => ?_) ?_
          · show mX11_grown_l37f (nI n) (hk σ I L) (lN (gro (it N k 2) i)) (nI i) = _
            have := hb' i (by omega)
            unfold mX11_grown_l37f
            rw [c_lt (by omega) (by omega), if_neg (by rw [gro_gt (by omega)]; omega), nzL10, show (10 : Int64) = lN 10 from rfl, lN_div (by omega) (by omega) (by omega), lN_add, nI_1]; rfl
          · show mX11_grown_l37f (nI n) (hk σ I L) (lN (gro (it N k 2) m)) (nI m) = _
            unfold mX11_grown_l37f mX11_grown_b65
            have hp : 0 < lg_cmp (lN (gro (it N k 2) m)) (2147483647 : Int64) := by rw [gro_gt (by omega)]; exact hgt
            rw [if_pos hp, if_pos hp, xts]
            split <;> rfl
        · unfold mX12_grown_l32
          refine lp_traj (f := fun s : Int64 × Int32 => mX12_grown_l32f (nI n) (hk σ I L) s.1 s.2) (m - 1) (fun i => (lN (gro (it N k 2) i), nI i)) _ (fun i hi => ?_) ?_
          · show mX12_grown_l32f (nI n) (hk σ I L) (lN (gro (it N k 2) i)) (nI i) = _
            have := hb' i (by omega)
            have h2 := hb' (i + 1) (by omega)
            have h3 : gro (it N k 2) (i + 1) = gro (it N k 2) i + gro (it N k 2) i / 10 := rfl
            unfold mX12_grown_l32f
            rw [c_lt (by omega) (by omega), nzL10, show (10 : Int64) = lN 10 from rfl, lN_div (by omega) (by omega) (by omega), lN_add, ← h3, if_neg (by rw [gro_gt (by omega)]; omega), nI_1]
          · show mX12_grown_l32f (nI n) (hk σ I L) (lN (gro (it N k 2) (m - 1))) (nI (m - 1)) = _
            unfold mX12_grown_l32f
            rw [c_lt (by omega) (by omega), nzL10, show (10 : Int64) = lN 10 from rfl, lN_div (by omega) (by omega) (by omega), lN_add, ← h3, if_pos (by rw [gro_gt (by omega)]; exact hgt), xts]
    · refine ⟨-1, ?_, ?_⟩
      · rcases ix_cases y with hy | ⟨j, hj, rfl⟩
        · rw [if_pos hy]
        · rw [nI_toInt hj] at hdy
          have := of_decide_eq_false hdy
          rw [if_neg (nI_pos hj), c_lt (show 400 < j by omega) hj]
      · rw [hdy, if_pos rfl]
  · rw [hd, if_pos rfl, if_pos rfl]; exact ⟨_, rfl, rfl⟩
/-- facts whose other way turns a COUNT, out of worlds below n -/
def isB (T N : Nat → Nat) (k n f : Nat) : Bool := anyB (fun w => lft T N w && won T k w && (lft T N (w ^^^ 2 ^ f) && !won T k (w ^^^ 2 ^ f))) n
theorem bs_or (p q : Nat → Bool) (n : Nat) : bs p n ||| bs q n = bs (fun i => p i || q i) n := by
  apply Nat.eq_of_testBit_eq; intro i
  rw [Nat.testBit_or, bs_bit, bs_bit, bs_bit]
  cases decide (i < n) <;> cases p i <;> cases q i <;> rfl
theorem xor_lt {w f : Nat} (hw : w < 256) (hf : f < 8) : w ^^^ 2 ^ f < 256 := Nat.xor_lt_two_pow (n := 8) hw (Nat.pow_lt_pow_right (by omega) hf)
theorem isB_sym {T N : Nat → Nat} {k f : Nat} (hf : f < 8) : isB T N k 256 f = anyB (fun w => lft T N w && (lft T N (w ^^^ 2 ^ f) && (won T k w != won T k (w ^^^ 2 ^ f)))) 256 := by
  unfold isB
  apply Bool.eq_iff_iff.mpr
  rw [anyB_iff, anyB_iff]
  constructor
  · rintro ⟨w, hw, h⟩
    refine ⟨w, hw, ?_⟩
    revert h
    cases lft T N w <;> cases won T k w <;> cases lft T N (w ^^^ 2 ^ f) <;> cases won T k (w ^^^ 2 ^ f) <;> decide
  · rintro ⟨w, hw, h⟩
    cases h1 : won T k w
    · refine ⟨w ^^^ 2 ^ f, xor_lt hw hf, ?_⟩
      rw [Nat.xor_assoc, Nat.xor_self, Nat.xor_zero]
      rw [h1] at h ⊢
      revert h
      cases lft T N w <;> cases lft T N (w ^^^ 2 ^ f) <;> cases won T k (w ^^^ 2 ^ f) <;> decide
    · refine ⟨w, hw, ?_⟩
      rw [h1] at h ⊢
      revert h
      cases lft T N w <;> cases lft T N (w ^^^ 2 ^ f) <;> cases won T k (w ^^^ 2 ^ f) <;> decide
theorem pow_bit {f : Nat} (hf : f < 31) : (1 : Int32) <<< (nI f &&& 31) = nI (2 ^ f) := shl1 hf
/-- issues -/
theorem q_issues {T N : Nat → Nat} (h : CR σ I L T N) (hm : MI I T N) (x : Int32) :
    ∃ v L1, mX11_issues 100 x (hk σ I L) = some (v, hk σ I L1) ∧ mX12_issues 433 x (hk σ I L1) = some v ∧ FrC I L I L1 := by
  have hW := h.2.1
  have h18 := (h.2.2.1.bkH hW).1
  have hla := h.1.1
  have w1 := hW.1.2.1
  unfold mX11_issues mX12_issues
  rw [if_pos s100, cisCount_ok h, obind, bI_if0]
  rcases ixn x (N 18) (by omega) with ⟨k, hk', rfl, hd⟩ | hd
  · obtain ⟨r, e1, hr⟩ := remember_ok h
    have h2 : CR σ I (rowUp L 415 r) T N := h.upL (by omega)
    obtain ⟨v1, v2, v3⟩ := h2.wonR hk'
    have hl : ∀ w, w < 256 → mX10_holds 414 (nI w) (hk σ I (rowUp L 415 r)) = some (bI (lft T N w)) := fun w hw => holds_ok wLeft (by rw [hpL_hk'', rowUp_same]; exact hr) hw
    have hwn : ∀ w, w < 256 → mX10_holds (gla σ + 16 + 2 * (26 + it N k 0)) (nI w) (hk σ I (rowUp L 415 r)) = some (bI (won T (it N k 0) w)) := fun w hw => holds_ok v1 v2 hw
    have turn : ∀ w, w < 256 → mX11_turningFacts 100 (nI w) (gla σ + 16 + 2 * (26 + it N k 0)) (hk σ I (rowUp L 415 r)) = some (nI (bs (fun f => lft T N (w ^^^ 2 ^ f) && !won T (it N k 0) (w ^^^ 2 ^ f)) (T 1))) := by
      intro w hw
      unfold mX11_turningFacts mX11_turningFacts_l5
      rw [if_pos s100]
      refine lp_traj (f := fun s : Int32 × Int32 => mX11_turningFacts_l5f 100 (nI w) (gla σ + 16 + 2 * (26 + it N k 0)) (hk σ I (rowUp L 415 r)) s.1 s.2) (T 1) (fun f => (nI (bs (fun f => lft T N (w ^^^ 2 ^ f) && !won T (it N k 0) (w ^^^ 2 ^ f)) f), nI f)) _ (fun f hf => ?_) ?_
      · show mX11_turningFacts_l5f 100 (nI w) (gla σ + 16 + 2 * (26 + it N k 0)) (hk σ I (rowUp L 415 r)) (nI (bs (fun f => lft T N (w ^^^ 2 ^ f) && !won T (it N k 0) (w ^^^ 2 ^ f)) f)) (nI f) = _
        have hx := xor_lt hw (show f < 8 by omega)
        unfold mX11_turningFacts_l5f mX11_turningFacts_b60
        rw [gLa, gI_la hla, obind, h.2.2.2.1.1.2.1, c_lt hf (by omega), L8, c_lt (by omega) (by omega), gLeft, shl1 (by omega), nx_xor, hl _ hx, obind, bI_if0, hwn _ hx, obind, bI_if0, nx_or, nI_1]
        simp only [bs]
        rcases Bool.eq_false_or_eq_true (lft T N (w ^^^ 2 ^ f)) with e1 | e1 <;> rcases Bool.eq_false_or_eq_true (won T (it N k 0) (w ^^^ 2 ^ f)) with e2 | e2 <;> simp only [e1, e2] <;> simp
      · show mX11_turningFacts_l5f 100 (nI w) (gla σ + 16 + 2 * (26 + it N k 0)) (hk σ I (rowUp L 415 r)) (nI (bs (fun f => lft T N (w ^^^ 2 ^ f) && !won T (it N k 0) (w ^^^ 2 ^ f)) (T 1))) (nI (T 1)) = _
        unfold mX11_turningFacts_l5f
        rw [gLa, gI_la hla, obind, h.2.2.2.1.1.2.1, c_nlt (Nat.le_refl _) (by omega), xts]
    refine ⟨nI (bs (isB T N (it N k 0) 256) (T 1)), rowUp L 415 r, ?_, ?_, FrC.rf.upL _ (by unfold scC; omega)⟩
    · rw [hd, if_neg nTF, e1, obind, gLa, ckind_ok h2 hk', obind, v3, obind]
      unfold mX11_issues_l32
      refine lp_traj (f := fun s : Int32 × Int32 => mX11_issues_l32f 100 (gla σ + 16 + 2 * (26 + it N k 0)) (hk σ I (rowUp L 415 r)) s.1 s.2) 256 (fun w => (nI (bs (isB T N (it N k 0) w) (T 1)), nI w)) _ (fun w hw => ?_) ?_ |> fun key => (by
        have e0 : bs (isB T N (it N k 0) 0) (T 1) = 0 := by
          apply Nat.eq_of_testBit_eq; intro i
          rw [bs_bit]; simp [isB, anyB]
        rw [e0] at key; exact key)
      · show mX11_issues_l32f 100 (gla σ + 16 + 2 * (26 + it N k 0)) (hk σ I (rowUp L 415 r)) (nI (bs (isB T N (it N k 0) w) (T 1))) (nI w) = _
        unfold mX11_issues_l32f mX11_issues_b71
        rw [show (256 : Int32) = nI 256 from rfl, c_lt hw (by omega), gLeft, hl w hw, obind, bI_if0, hwn w hw, obind, bI_if0, turn w hw, obind, nx_or, bs_or, nI_1]
        have es : bs (isB T N (it N k 0) (w + 1)) (T 1) = if (lft T N w && won T (it N k 0) w) = true then bs (fun i => isB T N (it N k 0) w i || (lft T N (w ^^^ 2 ^ i) && !won T (it N k 0) (w ^^^ 2 ^ i))) (T 1) else bs (isB T N (it N k 0) w) (T 1) := by
          split
          · rename_i hc
            apply bs_congr; intro i hi
            simp only [isB, anyB]; rw [hc]; rfl
          · rename_i hc
            apply bs_congr; intro i hi
            have hc' : (lft T N w && won T (it N k 0) w) = false := by simpa using hc
            simp only [isB, anyB]; rw [hc']; simp
        rw [es]
        cases lft T N w <;> cases won T (it N k 0) w <;> rfl
      · show mX11_issues_l32f 100 (gla σ + 16 + 2 * (26 + it N k 0)) (hk σ I (rowUp L 415 r)) (nI (bs (isB T N (it N k 0) 256) (T 1))) (nI 256) = _
        unfold mX11_issues_l32f
        rw [if_neg (by decide)]; rfl
    · rw [if_pos s433, misCount_ok hm.2.1 h18, obind, bI_if0, hd, if_neg nTF]
      have inner : ∀ w, w < 256 → ∀ a, mX12_issues_l24 433 (nI k) (nI a) (nI w) 0 (hk σ I (rowUp L 415 r)) = some (.inl (nI (a ||| bs (fun f => lft T N w && (lft T N (w ^^^ 2 ^ f) && (won T (it N k 0) w != won T (it N k 0) (w ^^^ 2 ^ f)))) (T 1)), nI (w + 1))) := by
        intro w hw a
        unfold mX12_issues_l24
        cases hlw : lft T N w
        · have e0 : bs (fun f => false && (lft T N (w ^^^ 2 ^ f) && (won T (it N k 0) w != won T (it N k 0) (w ^^^ 2 ^ f)))) (T 1) = 0 := by
            apply Nat.eq_of_testBit_eq; intro i
            rw [bs_bit]; simp
          rw [e0, Nat.or_zero]
          refine lp_inr ?_
          show mX12_issues_l24f 433 (nI k) (nI w) (hk σ I (rowUp L 415 r)) (nI a) (nI 0) = _
          unfold mX12_issues_l24f mX12_issues_b93
          rw [g434, ldT1 hm.1, obind, hm.left hw, obind, bI_if0, hlw, if_pos rfl, nI_1]
          by_cases hz : 0 < T 1
          · rw [c_lt hz (by omega)]; rfl
          · rw [c_nlt (by omega) (by omega)]; rfl
        · have hw1 := lft_lt hlw
          refine lp_traj (f := fun s : Int32 × Int32 => mX12_issues_l24f 433 (nI k) (nI w) (hk σ I (rowUp L 415 r)) s.1 s.2) (T 1) (fun f => (nI (a ||| bs (fun f => true && (lft T N (w ^^^ 2 ^ f) && (won T (it N k 0) w != won T (it N k 0) (w ^^^ 2 ^ f)))) f), nI f)) _ (fun f hf => ?_) ?_ |> fun key => (by
            have e0 : bs (fun f => true && (lft T N (w ^^^ 2 ^ f) && (won T (it N k 0) w != won T (it N k 0) (w ^^^ 2 ^ f)))) 0 = 0 := rfl
            rw [e0, Nat.or_zero] at key; exact key)
          · show mX12_issues_l24f 433 (nI k) (nI w) (hk σ I (rowUp L 415 r)) (nI (a ||| bs (fun f => true && (lft T N (w ^^^ 2 ^ f) && (won T (it N k 0) w != won T (it N k 0) (w ^^^ 2 ^ f)))) f)) (nI f) = _
            have hx := xor_lt hw (show f < 8 by omega)
            unfold mX12_issues_l24f mX12_issues_b84 mX12_issues_b85
            rw [g434, ldT1 hm.1, obind, c_lt hf (by omega), hm.left hw, obind, bI_if0, hlw, if_neg nTF, shl1 (by omega), nx_xor, hm.left hx, obind, bI_if0, hm.won hk' hw, obind, hm.won hk' hx, obind, nx_or0, nx_or, nI_1, decide_eq_true hw1, Bool.true_and]
            simp only [bs]
            rcases Bool.eq_false_or_eq_true (lft T N (w ^^^ 2 ^ f)) with hlx | hlx
            · rw [decide_eq_true (lft_lt hlx)]
              rcases Bool.eq_false_or_eq_true (won T (it N k 0) w) with e1 | e1 <;> rcases Bool.eq_false_or_eq_true (won T (it N k 0) (w ^^^ 2 ^ f)) with e2 | e2 <;> simp only [hlx, e1, e2] <;> simp [bI, Nat.or_assoc]
            · simp only [hlx]; simp
          · show mX12_issues_l24f 433 (nI k) (nI w) (hk σ I (rowUp L 415 r)) (nI (a ||| bs (fun f => true && (lft T N (w ^^^ 2 ^ f) && (won T (it N k 0) w != won T (it N k 0) (w ^^^ 2 ^ f)))) (T 1))) (nI (T 1)) = _
            unfold mX12_issues_l24f mX12_issues_b93
            rw [g434, ldT1 hm.1, obind, c_nlt (Nat.le_refl _) (by omega), nI_1]; rfl
      unfold mX12_issues_l14
      refine lp_traj (f := fun s : Int32 × Int32 => mX12_issues_l14f 433 (nI k) (hk σ I (rowUp L 415 r)) s.1 s.2) 256 (fun n => (nI (bs (fun f => anyB (fun w => lft T N w && (lft T N (w ^^^ 2 ^ f) && (won T (it N k 0) w != won T (it N k 0) (w ^^^ 2 ^ f)))) n) (T 1)), nI n)) _ (fun w hw => ?_) ?_ |> fun key => (by
        have e0 : bs (fun f => anyB (fun w => lft T N w && (lft T N (w ^^^ 2 ^ f) && (won T (it N k 0) w != won T (it N k 0) (w ^^^ 2 ^ f)))) 0) (T 1) = 0 := by
          apply Nat.eq_of_testBit_eq; intro i
          rw [bs_bit]; simp [anyB]
        rw [e0] at key; exact key)
      · show mX12_issues_l14f 433 (nI k) (hk σ I (rowUp L 415 r)) (nI (bs (fun f => anyB (fun w => lft T N w && (lft T N (w ^^^ 2 ^ f) && (won T (it N k 0) w != won T (it N k 0) (w ^^^ 2 ^ f)))) w) (T 1))) (nI w) = _
        unfold mX12_issues_l14f
        rw [show (256 : Int32) = nI 256 from rfl, c_lt hw (by omega), inner w hw, bs_or]; rfl
      · show mX12_issues_l14f 433 (nI k) (hk σ I (rowUp L 415 r)) (nI (bs (fun f => anyB (fun w => lft T N w && (lft T N (w ^^^ 2 ^ f) && (won T (it N k 0) w != won T (it N k 0) (w ^^^ 2 ^ f)))) 256) (T 1))) (nI 256) = _
        unfold mX12_issues_l14f
        rw [if_neg (by decide), xts]
        rw [bs_congr (q := isB T N (it N k 0) 256) fun f hf => (isB_sym (T := T) (N := N) (k := it N k 0) (f := f) (by omega)).symm]
  · refine ⟨-1, L, ?_, ?_, FrC.rf⟩
    · rw [hd, if_pos rfl]
    · rw [if_pos s433, misCount_ok hm.2.1 h18, obind, bI_if0, hd, if_pos rfl]
end Q5
