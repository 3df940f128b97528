/-! WHAT THE CLASS ANSWERS, by what is told (T) and what is now (N) -/
section C1
variable {σ : Sg} {I I' : Nat → Nat → Int32} {L L' : Nat → Nat → Int64} {T N : Nat → Nat}
theorem dIn {j n : Nat} (hj : j < n) (hn : n < 1000) : decide (0 ≤ (nI j).toInt ∧ (nI j).toInt < (n : Int)) = true := by
  rw [nI_toInt (by omega)]
  exact decide_eq_true ⟨by omega, by omega⟩
def faV (T N : Nat → Nat) (f y : Nat) : Int32 := if y = 0 then nI (T (8 + f)) else if y = 1 then nI (N f) else if y = 2 then (if kn N f = true then nI (N (8 + f)) else 2) else nI (bs (sayB N f) (N 18))
/-- fact -/
theorem c_fact (h : CR σ I L T N) {f y : Nat} (hf : f < T 1) (hy : y < 4) : mX11_fact 100 (nI f) (nI y) (hk σ I L) = some (faV T N f y) := by
  have hla := h.1.1
  have hsa := h.1.2.1
  have h8 := h.2.1.1.2.1
  have hWN := h.2.2.1
  unfold mX11_fact
  rw [if_pos s100, cisFact_ok h, obind, bI_if0, dIn hf (by omega), if_neg (by decide), tsw_n (by omega)]
  have b4 := hWN.1 f (by omega)
  rcases (show y = 0 ∨ y = 1 ∨ y = 2 ∨ y = 3 by omega) with rfl | rfl | rfl | rfl
  · rw [td0, gLa, gR_la hla, obind, RF_la_6 σ hla, at_r (SH_la1 hla) (by omega) (by omega), obind, h.2.2.2.1.2.1 f hf]; rfl
  · rw [td1, gSa, howIs_ok h (by omega), obind]; rfl
  · have k1 := knF_lt N
    have k2 := knS_lt N
    rw [td2, gSa, known_ok hsa h.2.2.2.2, obind, has_nI (by omega) (by omega), obind, bI_if0, gSa, gI_st hsa, obind, h.2.2.2.2.1.2.2.2.2.2.2.2.2, has_nI (by omega) (by omega), obind, bI_if0]
    unfold knF knS
    rw [bs_bit, bs_bit, decide_eq_true (show f < 8 by omega), Bool.true_and, Bool.true_and]
    show _ = some (if kn N f = true then nI (N (8 + f)) else 2)
    cases hk1 : kn N f
    · rfl
    · rcases (show N (8 + f) = 0 ∨ N (8 + f) = 1 by omega) with e | e <;> rw [e] <;> rfl
  · rw [td3, gSa, csayers_ok h (by omega), obind]; rfl
/-- element -/
theorem c_element (h : CR σ I L T N) {k i y : Nat} (hk' : k < N 18) (hi : i < T (26 + it N k 0)) (hy : y < 3) :
    ∃ I1 L1, mX11_element 100 (nI k) (nI i) (nI y) (hk σ I L) = some (tel T N (T (31 + 4 * it N k 0 + i)) k y, hk σ I1 L1) ∧ FrC I L I1 L1 := by
  have hla := h.1.1
  have hW := h.2.1
  have h18 := (h.2.2.1.bkH hW).1
  unfold mX11_element
  rw [if_pos s100, cisCount_ok h, obind, bI_if0, dIn hk' (by omega), if_neg (by decide)]
  obtain ⟨a0, _⟩ := h.2.2.1.2.2.2.2.1 k hk'
  obtain ⟨_, _, b26, b31, _⟩ := hW.2.2.1 _ a0
  have w2 := hW.1.2.2.1
  have hc3 := (h.2.2.2.1.2.2.1 _ a0)
  have rd : mX11_at (gla σ + 3) (nI (it N k 0)) (hk σ I L) = some (nI (T (26 + it N k 0))) := by rw [at_r (SH_la3 hla) (by omega) (by omega), hc3.1]
  rw [if_neg (nI_pos (by omega)), gLa, gR_la hla, obind, RF_la_8 σ hla, ckind_ok h hk', obind, rd, obind, c_lt hi (by omega), obind, needSlot_nI, obind]
  obtain ⟨d1, d2, d3⟩ := hc3.2.2.2 i hi
  obtain ⟨I1, L1, e1, f1⟩ := cshown_ok h hk' (slot := 4 * it N k 0 + i) (e := T (31 + 4 * it N k 0 + i)) ⟨by omega, b31 i hi, d1, d2, d3⟩ hy
  rw [e1, b2s]
  exact ⟨I1, L1, rfl, f1⟩
/-- worlds -/
theorem c_worlds0 (h : CR σ I L T N) : mX11_worlds 100 0 (hk σ I L) = some (nI (cntB (poss T) 256), hk σ I L) := by
  have hla := h.1.1
  unfold mX11_worlds
  rw [if_pos s100, lsw0, gLa, gR_la hla, obind, RF_la_17 σ hla, size_ok (wPos hla) h.2.2.2.1.2.2.2.2.2.2, obind]
theorem c_worlds1 (h : CR σ I L T N) : ∃ L1, mX11_worlds 100 1 (hk σ I L) = some (nI (cntB (lft T N) 256), hk σ I L1) ∧ FrC I L I L1 := by
  unfold mX11_worlds
  obtain ⟨r, e, hr⟩ := remember_ok h
  rw [if_pos s100, lsw1, e, obind, gLeft, size_ok (wLeft (σ := σ) (I := I) (L := rowUp L 415 r)) (by rw [hpL_hk'', rowUp_same]; exact hr), obind]
  exact ⟨_, rfl, FrC.rf.upL _ (by unfold scC; omega)⟩
/-- clash -/
theorem c_clash (h : CR σ I L T N) {a b : Nat} (ha : a < N 18) (hb : b < N 18) :
    ∃ L1, mX11_clash 100 (nI a) (nI b) (hk σ I L) = some (bI (!anyB (fun w => agr T (it N a 4) (it N a 5) w && decide (w &&& it N b 4 = it N b 5)) 256), hk σ I L1) ∧ FrC I L I L1 := by
  have hW := h.2.1
  have h18 := (h.2.2.1.bkH hW).1
  have hsa := h.1.2.1
  unfold mX11_clash
  rw [if_pos s100, cisCount_ok h, obind, bI_if0, dIn ha (by omega), cisCount_ok h, obind, bI_if0, dIn hb (by omega)]
  obtain ⟨b4, b5, b45⟩ := h.2.2.1.say hW hb
  obtain ⟨r, e1, hr⟩ := allege_ok h ha
  have h2 : CR σ I (rowUp L 417 r) T N := h.upL (by omega)
  obtain ⟨r', e2, hr'⟩ := agree_ok (σ := σ) (I := I) (L := rowUp L 417 r) h2.1.2.2 (a := 416) (p := 417) wAll (by decide) (by rw [rowUp_same]; exact hr) (nI (it N b 4)) (nI (it N b 5))
  rw [rowUp_two] at e2
  obtain ⟨_, _, _, _, s5, s6⟩ := h2.2.2.2.2.2 b hb
  have ef : (fun w => agr T (it N a 4) (it N a 5) w && agN (nI (it N b 4)) (nI (it N b 5)) w 8) = fun w => agr T (it N a 4) (it N a 5) w && decide (w &&& it N b 4 = it N b 5) := by
    funext w; rw [agN_n b4 b5, b45]
  rw [ef] at hr'
  refine ⟨rowUp L 417 r', ?_, FrC.rf.upL _ (by unfold scC; omega)⟩
  rw [if_neg (by decide), if_neg (by decide), e1, obind, gAll, gSa, gR_st hsa, obind, RF_st_13 σ hsa, at_r (SH_st5 hsa) (by omega) (by omega), obind, gSa, gR_st hsa, obind, RF_st_14 σ hsa, at_r (SH_st6 hsa) (by omega) (by omega), obind, s5, s6, e2, obind, gAll, isEmpty_ok (wAll (σ := σ) (I := I) (L := rowUp L 417 r')) (by rw [hpL_hk'', rowUp_same]; exact hr'), obind, bI_if0]
  cases anyB (fun w => agr T (it N a 4) (it N a 5) w && decide (w &&& it N b 4 = it N b 5)) 256 <;> rfl
/-- implied -/
theorem c_implied (h : CR σ I L T N) {a b : Nat} (ha : a < N 18) (hb : b < N 18) :
    ∃ L1, mX11_implied 100 (nI a) (nI b) (hk σ I L) = some (bI (allB (fun w => !(lft T N w && won T (it N a 0) w) || won T (it N b 0) w) 256), hk σ I L1) ∧ FrC I L I L1 := by
  have hW := h.2.1
  have h18 := (h.2.2.1.bkH hW).1
  have hla := h.1.1
  unfold mX11_implied
  rw [if_pos s100, cisCount_ok h, obind, bI_if0, dIn ha (by omega), cisCount_ok h, obind, bI_if0, dIn hb (by omega)]
  obtain ⟨r, e1, hr⟩ := remember_ok h
  have h2 : CR σ I (rowUp L 415 r) T N := h.upL (by omega)
  obtain ⟨w1, w2, w3⟩ := h2.wonR ha
  obtain ⟨r', e2, hr'⟩ := and_ok (wLeft (σ := σ) (I := I) (L := rowUp L 415 r)) w1 (by have a0 := (h.2.2.1.2.2.2.2.1 a ha).1; have wk2 := hW.1.2.2.1; rcases hla with e | e <;> rw [e] <;> omega) (by rw [hpL_hk'', rowUp_same]; exact hr) (by rw [hpL_hk'']; exact w2)
  rw [setL_hk, rowUp_two] at e2
  have h3 : CR σ I (rowUp L 415 r') T N := h.upL (by omega)
  obtain ⟨v1, v2, v3⟩ := h3.wonR hb
  refine ⟨rowUp L 415 r', ?_, FrC.rf.upL _ (by unfold scC; omega)⟩
  rw [if_neg (by decide), if_neg (by decide), e1, obind, gLeft, gLa, ckind_ok h2 ha, obind, w3, obind, e2, obind, gLeft, gLa, ckind_ok h3 hb, obind, v3, obind, within_ok (wLeft (σ := σ) (I := I) (L := rowUp L 415 r')) v1 (by rw [hpL_hk'', rowUp_same]; exact hr') (by rw [hpL_hk'']; exact v2), obind, bI_if0]
  cases allB (fun w => !(lft T N w && won T (it N a 0) w) || won T (it N b 0) w) 256 <;> rfl
/-- judged -/
theorem c_judged (h : CR σ I L T N) {k : Nat} (hk' : k < N 18) :
    ∃ L1, mX11_judged 100 (nI k) (hk σ I L) = some (how3 (lft T N) (won T (it N k 0)), hk σ I L1) ∧ FrC I L I L1 := by
  have hW := h.2.1
  have h18 := (h.2.2.1.bkH hW).1
  unfold mX11_judged
  rw [if_pos s100, cisCount_ok h, obind, bI_if0, dIn hk' (by omega)]
  obtain ⟨r, e1, hr⟩ := remember_ok h
  have h2 : CR σ I (rowUp L 415 r) T N := h.upL (by omega)
  obtain ⟨w1, w2, w3⟩ := h2.wonR hk'
  rw [if_neg nTF, e1, obind, gLeft, gLa, ckind_ok h2 hk', obind, w3, obind, howIn_ok (wLeft (σ := σ) (I := I) (L := rowUp L 415 r)) w1 (by rw [hpL_hk'', rowUp_same]; exact hr) (by rw [hpL_hk'']; exact w2), obind]
  exact ⟨_, rfl, FrC.rf.upL _ (by unfold scC; omega)⟩
theorem gro_le {v : Nat} : ∀ n, gro v n ≤ v * 2 ^ n
  | 0 => by show v ≤ v * 1; omega
  | n + 1 => by
    have := gro_le (v := v) n
    have e : v * 2 ^ (n + 1) = v * 2 ^ n * 2 := by rw [Nat.pow_succ, Nat.mul_assoc]
    show gro v n + gro v n / 10 ≤ _
    omega
/-- grown -/
theorem c_grown (h : CR σ I L T N) {k n : Nat} (hk' : k < N 18) (hn : n < 10) : mX11_grown 100 (nI k) (nI n) (hk σ I L) = some (nI (gro (it N k 2) n)) := by
  have hW := h.2.1
  have h18 := (h.2.2.1.bkH hW).1
  have hsa := h.1.2.1
  unfold mX11_grown
  rw [if_pos s100, cisCount_ok h, obind, bI_if0, dIn hk' (by omega), if_neg nTF, L400]
  obtain ⟨_, _, n2, _⟩ := h.2.2.1.2.2.2.2.1 k hk'
  obtain ⟨_, s2, _⟩ := h.2.2.2.2.2 k hk'
  have hb' : ∀ i, i ≤ n → gro (it N k 2) i ≤ 2147483647 := fun i hi => by
    have h1 := gro_le (v := it N k 2) i
    have h2 : 2 ^ i ≤ 2 ^ 10 := Nat.pow_le_pow_right (by omega) (by omega)
    have h3 : it N k 2 * 2 ^ i ≤ 999 * 2 ^ 10 := Nat.mul_le_mul (by omega) h2
    omega
  rw [if_neg (nI_pos (show n < 2 ^ 31 by omega)), c_nlt (show n ≤ 400 by omega) (by omega), gSa, gR_st hsa, obind, RF_st_10 σ hsa, at_r (SH_st2 hsa) (by omega) (by omega), obind, s2, nI_l (by omega)]
  unfold mX11_grown_l37
  refine lp_traj (f := fun s : Int64 × Int32 => mX11_grown_l37f (nI n) (hk σ I L) s.1 s.2) n (fun i => (lN (gro (it N k 2) i), nI i)) _ (fun i hi => ?_) ?_
  · show mX11_grown_l37f (nI n) (hk σ I L) (lN (gro (it N k 2) i)) (nI i) = _
    have := hb' i (by omega)
    unfold mX11_grown_l37f
    rw [c_lt hi (by omega), if_neg (by rw [gro_gt (by omega)]; omega), nzL10, show (10 : Int64) = lN 10 from rfl, lN_div (by omega) (by omega) (by omega), lN_add, nI_1]; rfl
  · show mX11_grown_l37f (nI n) (hk σ I L) (lN (gro (it N k 2) n)) (nI n) = _
    have := hb' n (Nat.le_refl _)
    unfold mX11_grown_l37f mX11_grown_b65
    rw [c_nlt (Nat.le_refl _) (by omega), if_neg (by rw [gro_gt (by omega)]; omega), lN_i, xts]
/-- issues -/
theorem c_issues (h : CR σ I L T N) {k : Nat} (hk' : k < N 18) :
    ∃ L1, mX11_issues 100 (nI k) (hk σ I L) = some (nI (bs (isB T N (it N k 0) 256) (T 1)), hk σ I L1) ∧ FrC I L I L1 := by
  have hW := h.2.1
  have h18 := (h.2.2.1.bkH hW).1
  have hla := h.1.1
  have w1 := hW.1.2.1
  unfold mX11_issues
  rw [if_pos s100, cisCount_ok h, obind, bI_if0, dIn hk' (by omega)]
  obtain ⟨r, e1, hr⟩ := remember_ok h
  have h2 : CR σ I (rowUp L 415 r) T N := h.upL (by omega)
  obtain ⟨v1, v2, v3⟩ := h2.wonR hk'
  have hl : ∀ w, w < 256 → mX10_holds 414 (nI w) (hk σ I (rowUp L 415 r)) = some (bI (lft T N w)) := fun w hw => holds_ok wLeft (by rw [hpL_hk'', rowUp_same]; exact hr) hw
  have hwn : ∀ w, w < 256 → mX10_holds (gla σ + 16 + 2 * (26 + it N k 0)) (nI w) (hk σ I (rowUp L 415 r)) = some (bI (won T (it N k 0) w)) := fun w hw => holds_ok v1 v2 hw
  have turn : ∀ w, w < 256 → mX11_turningFacts 100 (nI w) (gla σ + 16 + 2 * (26 + it N k 0)) (hk σ I (rowUp L 415 r)) = some (nI (bs (fun f => lft T N (w ^^^ 2 ^ f) && !won T (it N k 0) (w ^^^ 2 ^ f)) (T 1))) := by
    intro w hw
    unfold mX11_turningFacts mX11_turningFacts_l5
    rw [if_pos s100]
    refine lp_traj (f := fun s : Int32 × Int32 => mX11_turningFacts_l5f 100 (nI w) (gla σ + 16 + 2 * (26 + it N k 0)) (hk σ I (rowUp L 415 r)) s.1 s.2) (T 1) (fun f => (nI (bs (fun f => lft T N (w ^^^ 2 ^ f) && !won T (it N k 0) (w ^^^ 2 ^ f)) f), nI f)) _ (fun f hf => ?_) ?_
    · show mX11_turningFacts_l5f 100 (nI w) (gla σ + 16 + 2 * (26 + it N k 0)) (hk σ I (rowUp L 415 r)) (nI (bs (fun f => lft T N (w ^^^ 2 ^ f) && !won T (it N k 0) (w ^^^ 2 ^ f)) f)) (nI f) = _
      have hx := xor_lt hw (show f < 8 by omega)
      unfold mX11_turningFacts_l5f mX11_turningFacts_b60
      rw [gLa, gI_la hla, obind, h.2.2.2.1.1.2.1, c_lt hf (by omega), L8, c_lt (by omega) (by omega), gLeft, shl1 (by omega), nx_xor, hl _ hx, obind, bI_if0, hwn _ hx, obind, bI_if0, nx_or, nI_1]
      simp only [bs]
      rcases Bool.eq_false_or_eq_true (lft T N (w ^^^ 2 ^ f)) with e1 | e1 <;> rcases Bool.eq_false_or_eq_true (won T (it N k 0) (w ^^^ 2 ^ f)) with e2 | e2 <;> simp only [e1, e2] <;> simp
    · show mX11_turningFacts_l5f 100 (nI w) (gla σ + 16 + 2 * (26 + it N k 0)) (hk σ I (rowUp L 415 r)) (nI (bs (fun f => lft T N (w ^^^ 2 ^ f) && !won T (it N k 0) (w ^^^ 2 ^ f)) (T 1))) (nI (T 1)) = _
      unfold mX11_turningFacts_l5f
      rw [gLa, gI_la hla, obind, h.2.2.2.1.1.2.1, c_nlt (Nat.le_refl _) (by omega), xts]
  refine ⟨rowUp L 415 r, ?_, FrC.rf.upL _ (by unfold scC; omega)⟩
  rw [if_neg nTF, e1, obind, gLa, ckind_ok h2 hk', obind, v3, obind]
  unfold mX11_issues_l32
  have key := lp_traj (f := fun s : Int32 × Int32 => mX11_issues_l32f 100 (gla σ + 16 + 2 * (26 + it N k 0)) (hk σ I (rowUp L 415 r)) s.1 s.2) 256 (fun w => (nI (bs (isB T N (it N k 0) w) (T 1)), nI w)) (nI (bs (isB T N (it N k 0) 256) (T 1)), hk σ I (rowUp L 415 r)) (fun w hw => by
    show mX11_issues_l32f 100 (gla σ + 16 + 2 * (26 + it N k 0)) (hk σ I (rowUp L 415 r)) (nI (bs (isB T N (it N k 0) w) (T 1))) (nI w) = _
    unfold mX11_issues_l32f mX11_issues_b71
    rw [show (256 : Int32) = nI 256 from rfl, c_lt hw (by omega), gLeft, hl w hw, obind, bI_if0, hwn w hw, obind, bI_if0, turn w hw, obind, nx_or, bs_or, nI_1]
    have es : bs (isB T N (it N k 0) (w + 1)) (T 1) = if (lft T N w && won T (it N k 0) w) = true then bs (fun i => isB T N (it N k 0) w i || (lft T N (w ^^^ 2 ^ i) && !won T (it N k 0) (w ^^^ 2 ^ i))) (T 1) else bs (isB T N (it N k 0) w) (T 1) := by
      split
      · rename_i hc
        apply bs_congr; intro i hi
        simp only [isB, anyB]; rw [hc]; rfl
      · rename_i hc
        apply bs_congr; intro i hi
        have hc' : (lft T N w && won T (it N k 0) w) = false := by simpa using hc
        simp only [isB, anyB]; rw [hc']; simp
    rw [es]
    cases lft T N w <;> cases won T (it N k 0) w <;> rfl) (by
    show mX11_issues_l32f 100 (gla σ + 16 + 2 * (26 + it N k 0)) (hk σ I (rowUp L 415 r)) (nI (bs (isB T N (it N k 0) 256) (T 1))) (nI 256) = _
    unfold mX11_issues_l32f
    rw [if_neg (by decide)]; rfl)
  have e0 : bs (isB T N (it N k 0) 0) (T 1) = 0 := by
    apply Nat.eq_of_testBit_eq; intro i
    rw [bs_bit]; simp [isB, anyB]
  rw [e0] at key
  exact key
/-- together, of a set of COUNTS that are there -/
theorem c_together (h : CR σ I L T N) {X : Nat} (hX : X < 2 ^ N 18) :
    ∃ L1, mX11_together 100 (nI X) (hk σ I L) = some (bI (anyB (tg T N X (N 18)) 256), hk σ I L1) ∧ FrC I L I L1 := by
  have hW := h.2.1
  have h18 := (h.2.2.1.bkH hW).1
  have hla := h.1.1
  have hsa := h.1.2.1
  have hc := h.2.2.2.2.1.2.2.1
  have hX8 : X < 256 := Nat.lt_of_lt_of_le hX (by have : 2 ^ N 18 ≤ 2 ^ 8 := Nat.pow_le_pow_right (by omega) (by omega); omega)
  have hX31 : X < 2 ^ 31 := by omega
  have hz : nI (X >>> N 18) = 0 := by rw [Nat.shiftRight_eq_div_pow, Nat.div_eq_of_lt hX]; rfl
  unfold mX11_together
  obtain ⟨r, e1, hr⟩ := remember_ok h
  rw [if_pos s100, if_neg (nI_pos hX31), gSa, gI_st hsa, obind, hc, nx_shr hX31 (by omega), if_pos hz, e1, obind]
  unfold mX11_together_l24
  obtain ⟨o, e, r', rfl, hr'⟩ := lp_inv (f := fun s : Int32 × Hp => mX11_together_l24f 100 (nI X) s.1 s.2) (N 18) (fun i st => ∃ r, st = (nI i, hk σ I (rowUp L 415 r)) ∧ Rw r (tg T N X i))
    (fun o => ∃ r, o = (bI (anyB (tg T N X (N 18)) 256), hk σ I (rowUp L 415 r)) ∧ Rw r (tg T N X (N 18)))
    (fun i st hi hQ => by
      obtain ⟨r, rfl, hr⟩ := hQ
      have h2 : CR σ I (rowUp L 415 r) T N := h.upL (by omega)
      show ∃ t, mX11_together_l24f 100 (nI X) (nI i) (hk σ I (rowUp L 415 r)) = some (.inl t) ∧ _
      unfold mX11_together_l24f mX11_together_b62
      rw [gSa, gI_st hsa, obind, hc, c_lt hi (by omega), has_nI hX31 (by omega), obind, bI_if0]
      rcases Bool.eq_false_or_eq_true (X.testBit i) with q | q
      · obtain ⟨w1, w2, w3⟩ := h2.wonR hi
        have a0 := (h.2.2.1.2.2.2.2.1 i hi).1
        have wk2 := hW.1.2.2.1
        obtain ⟨r', e2, hr'⟩ := and_ok (wLeft (σ := σ) (I := I) (L := rowUp L 415 r)) w1 (by omega) (by rw [hpL_hk'', rowUp_same]; exact hr) (by rw [hpL_hk'']; exact w2)
        rw [setL_hk, rowUp_two] at e2
        rw [q, if_neg nTF, gLeft, gLa, ckind_ok h2 hi, obind, w3, obind, e2, obind, nI_1]
        refine ⟨_, rfl, r', rfl, ?_⟩
        have : (fun w => tg T N X i w && won T (it N i 0) w) = tg T N X (i + 1) := by
          funext w; rw [tg_s, q]; simp
        rw [← this]; exact hr'
      · rw [q, if_pos rfl, nI_1]
        refine ⟨_, rfl, r, rfl, ?_⟩
        have : tg T N X i = tg T N X (i + 1) := by
          funext w; rw [tg_s, q]; simp
        rw [← this]; exact hr)
    (fun st hQ => by
      obtain ⟨r, rfl, hr⟩ := hQ
      refine ⟨_, ?_, r, rfl, hr⟩
      show mX11_together_l24f 100 (nI X) (nI (N 18)) (hk σ I (rowUp L 415 r)) = _
      unfold mX11_together_l24f
      rw [gSa, gI_st hsa, obind, hc, c_nlt (Nat.le_refl _) (by omega), gLeft, isEmpty_ok (wLeft (σ := σ) (I := I) (L := rowUp L 415 r)) (by rw [hpL_hk'', rowUp_same]; exact hr), obind, bI_if0]
      cases anyB (tg T N X (N 18)) 256 <;> rfl) (s := (nI 0, hk σ I (rowUp L 415 r))) ⟨r, rfl, by
      have : tg T N X 0 = lft T N := by funext w; unfold tg; show (lft T N w && true) = _; rw [Bool.and_true]
      rw [this]; exact hr⟩
  exact ⟨rowUp L 415 r', e, FrC.rf.upL _ (by unfold scC; omega)⟩
end C1
