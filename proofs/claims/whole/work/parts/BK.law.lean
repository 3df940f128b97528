/-! THE LAW: its loop -/
section LawLoop
variable {σ σ' : Sg} {I I' : Nat → Nat → Int32} {L L' : Nat → Nat → Int64} {S : Nat → Int32} {n m i j : Nat}
theorem law_lt (hn : n ≤ 2560) (hi : i ≤ 3000) : (nI n - (5 : Int32) < nI i) ↔ n < i + 5 := by
  by_cases h : 5 ≤ n
  · rw [show (5 : Int32) = nI 5 from rfl, nI_sub h]
    constructor
    · intro q
      by_cases e : n < i + 5
      · exact e
      · exact absurd q (nI_nlt (a := n - 5) (b := i) (by omega) (by omega))
    · intro q
      exact nI_lt (a := n - 5) (b := i) (by omega) (by omega)
  · refine ⟨fun _ => by omega, fun _ => Int32.lt_iff_toInt_lt.mpr ?_⟩
    rw [nI_toInt (show i < 2147483648 by omega)]
    rcases (show n = 0 ∨ n = 1 ∨ n = 2 ∨ n = 3 ∨ n = 4 by omega) with rfl | rfl | rfl | rfl | rfl
    · have : (nI 0 - (5 : Int32)).toInt = -5 := by decide
      omega
    · have : (nI 1 - (5 : Int32)).toInt = -4 := by decide
      omega
    · have : (nI 2 - (5 : Int32)).toInt = -3 := by decide
      omega
    · have : (nI 3 - (5 : Int32)).toInt = -2 := by decide
      omega
    · have : (nI 4 - (5 : Int32)).toInt = -1 := by decide
      omega
theorem lawf_ok (hA : ALL σ I L S) (hn : gN σ ≤ 2560) (hi : i + 5 ≤ gN σ) : ST σ S i (mL_law_l18f 1 100 433 (nI i) (hk σ I L)) := by
  obtain ⟨T, N, a, P, K, Q, X, n, fl, pl, W, h⟩ := id hA
  obtain ⟨w, hw, ew⟩ := wb_of32 (S i)
  have h31 : gN σ < 2147483648 := by omega
  have l0 : ldI 1 (nI i) (hk σ I L) = some (S i) := by
    have := ldS (σ := σ) (L := L) (i := i) (j := 0) h.2.1 (by omega) h31
    rw [nI_add] at this
    exact this
  have em : S i &&& (63 : Int32) = nI (w &&& 63) := by rw [ew, show (63 : Int32) = nI 63 from rfl, nx_and]
  have hm : w &&& 63 < 64 := Nat.lt_of_le_of_lt Nat.and_le_right (by omega)
  obtain ⟨m, hmw⟩ : ∃ m, m = w &&& 63 := ⟨_, rfl⟩
  rw [← hmw] at em hm
  unfold mL_law_l18f
  rw [aLen_ok (k := 80) (n := gN σ) (by rw [hpS_hk]; exact SH_1 _) rfl, obind, if_neg (fun q => by have := (law_lt hn (by omega)).mp q; omega), l0, obind, em, tsw_n (by omega)]
  clear em hmw ew hw l0
  match m, hm with
  | 0, _ => exact lc_sign h hi h31
  | 1, _ => exact lc_end h hi h31
  | 2, _ => exact lc_suit h hi h31
  | 3, _ => exact lc_fault h hi h31
  | 4, _ => exact lc_fact h hi h31
  | 5, _ => exact lc_of h hi h31
  | 6, _ => exact lc_element h hi h31
  | 7, _ => exact lc_bar h hi h31
  | 8, _ => exact lc_answer h hi h31
  | 9, _ => exact lc_withdraw h hi h31
  | 10, _ => exact lc_close h hi h31
  | 11, _ => exact lc_find h hi h31
  | 12, _ => exact lc_say h hi h31
  | 13, _ => exact lc_add h hi h31
  | 14, _ => exact lc_strike h hi h31
  | 15, _ => exact lc_days h hi h31
  | 16, _ => exact lc_undo h hi h31
  | 17, _ => exact lc_keep h hi h31
  | 18, _ => exact lc_again h hi h31
  | 19, _ => exact lc_worlds h hi h31
  | 20, _ => exact lc_clash h hi h31
  | 21, _ => exact lc_implied h hi h31
  | 22, _ => exact lc_lacks h hi h31
  | 23, _ => exact lc_grown h hi h31
  | 24, _ => exact lc_issues h hi h31
  | 25, _ => exact lc_judged h hi h31
  | 26, _ => exact lc_tries h hi h31
  | 27, _ => exact lc_chance h hi h31
  | 28, _ => exact lc_award h hi h31
  | 29, _ => exact lc_meant h hi h31
  | 30, _ => exact lc_outcomes h hi h31
  | 31, _ => exact lc_outcome h hi h31
  | 32, _ => exact lc_proofs h hi h31
  | 33, _ => exact lc_proof h hi h31
  | 34, _ => exact lc_duel h hi h31
  | 35, _ => exact lc_turn h hi h31
  | 36, _ => exact lc_together h hi h31
  | 37, _ => exact lc_elect h hi h31
  | 38, _ => exact lc_ask h hi h31
  | 39, _ => exact lc_asked h hi h31
  | 40, _ => exact lc_count h hi h31
  | (k + 41), _ => rw [tdN (by show 41 ≤ k + 41; omega), b1414_ok]; exact ⟨σ, I, L, rfl, rfl, hA⟩
theorem law_run : ∀ (d : Nat) {i : Nat} {σ : Sg} {I : Nat → Nat → Int32} {L : Nat → Nat → Int64}, ALL σ I L S → gN σ ≤ 2560 → i ≤ 2570 → gN σ < i + 5 + d → ∃ σ' I' L', mL_law_l18 1 100 433 (nI i) (hk σ I L) = some (1, hk σ' I' L')
  | 0, i, σ, I, L, hA, hn, hi, hd => by
    refine ⟨σ, I, L, ?_⟩
    unfold mL_law_l18
    refine lp_xt (K := some (1, hk σ I L)) ?_
    show mL_law_l18f 1 100 433 (nI i) (hk σ I L) = _
    unfold mL_law_l18f
    rw [aLen_ok (k := 80) (n := gN σ) (by rw [hpS_hk]; exact SH_1 _) rfl, obind, if_pos ((law_lt hn (by omega)).mpr (by omega))]
  | d + 1, i, σ, I, L, hA, hn, hi, hd => by
    by_cases e : gN σ < i + 5
    · exact law_run 0 hA hn hi (by omega)
    · obtain ⟨σ1, I1, L1, e1, eN, hA1⟩ := lawf_ok hA hn (i := i) (by omega)
      obtain ⟨σ', I', L', e2⟩ := law_run d (i := i + 5) hA1 (by omega) (by omega) (by omega)
      refine ⟨σ', I', L', ?_⟩
      rw [← e2]
      unfold mL_law_l18
      rw [lp_eq]
      show (match mL_law_l18f 1 100 433 (nI i) (hk σ I L) with | _ => _) = _
      rw [e1]
end LawLoop
