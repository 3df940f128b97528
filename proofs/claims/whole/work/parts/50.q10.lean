section Q10
variable {σ : Sg} {I I' I1 I2 : Nat → Nat → Int32} {L L' L1 L2 : Nat → Nat → Int64}
theorem pcd : ∀ a, a < 9 → ∀ b, b < 9 → (0 < nI a - nI b ↔ b < a) ∧ (nI a - nI b = 0 ↔ a = b) := by decide
/-- elect -/
def stE (T N : Nat → Nat) (b w : Nat) : Nat := if pc b < pc (ws T N w) then ws T N w else if pc (ws T N w) = pc b then (if ws T N w < b then ws T N w else b) else b
def inE (T N : Nat → Nat) (b w : Nat) : Prop := pc (ws T N w) < pc b ∨ (pc (ws T N w) = pc b ∧ b ≤ ws T N w)
theorem inE_1 {T N : Nat → Nat} (b w : Nat) : inE T N (stE T N b w) w := by
  unfold inE stE
  by_cases h1 : pc b < pc (ws T N w)
  · rw [if_pos h1]; exact Or.inr ⟨rfl, Nat.le_refl _⟩
  · rw [if_neg h1]
    by_cases h2 : pc (ws T N w) = pc b
    · rw [if_pos h2]
      by_cases h3 : ws T N w < b
      · rw [if_pos h3]; exact Or.inr ⟨rfl, Nat.le_refl _⟩
      · rw [if_neg h3]; exact Or.inr ⟨h2, by omega⟩
    · rw [if_neg h2]; exact Or.inl (by omega)
theorem inE_2 {T N : Nat → Nat} (b v w : Nat) (h : inE T N b v) : inE T N (stE T N b w) v := by
  unfold inE stE at *
  by_cases h1 : pc b < pc (ws T N w)
  · rw [if_pos h1]; exact Or.inl (by omega)
  · rw [if_neg h1]
    by_cases h2 : pc (ws T N w) = pc b
    · rw [if_pos h2]
      by_cases h3 : ws T N w < b
      · rw [if_pos h3]; omega
      · rw [if_neg h3]; exact h
    · rw [if_neg h2]; exact h
theorem inE_3 {T N : Nat → Nat} (b v w : Nat) (e : ws T N v = ws T N w) (h : inE T N b v) : stE T N b w = b := by
  unfold inE at h
  unfold stE
  rw [e] at h
  rw [if_neg (by omega)]
  by_cases h2 : pc (ws T N w) = pc b
  · rw [if_pos h2, if_neg (by omega)]
  · rw [if_neg h2]
theorem stE_b {T N : Nat → Nat} (h18 : N 18 ≤ 8) (p : Nat → Bool) : ∀ n, fo (stE T N) p 0 n < 256
  | 0 => by show 0 < 256; decide
  | n + 1 => by
    have ih := stE_b (T := T) h18 p n
    have b := ws_lt (T := T) h18 n
    rw [foS]
    split
    · unfold stE
      split
      · exact b
      · split
        · split
          · exact b
          · exact ih
        · exact ih
    · exact ih
theorem mbits_n {n : Nat} (h : n < 256) : mX12_bits (nI n) = some (nI (pc n)) := by rw [mbits_ok, cnt32 h]
theorem q_elect {T N : Nat → Nat} (h : CR σ I L T N) (hm : MI I T N) (y : Int32) :
    ∃ v I1 L1 I2, mX11_elect 100 y (hk σ I L) = some (v, hk σ I1 L1) ∧ mX12_elect 433 y (hk σ I1 L1) = some (v, hk σ I2 L1) ∧ FrC I L I1 L1 ∧ FrM I1 L1 I2 L1 := by
  have hW := h.2.1
  have hN := h.2.2.1
  have h18 := (h.2.2.1.bkH hW).1
  unfold mX11_elect mX12_elect
  rw [if_pos s100]
  rcases ixn y 2 (by omega) with ⟨j, hj, rfl, hdy⟩ | hdy
  · obtain ⟨I1, L1, e1, f1, hl1, t1⟩ := survey_ok h
    have hx : CR σ I1 L1 T N := h.fr f1
    obtain ⟨I2, e2, f2, m, hji, hs⟩ := laysWins_ok (σ := σ) (L := L1) (hm.frC f1)
    have lc := cntB_le (isF T N) 256
    obtain ⟨B, hB⟩ : ∃ B, B = fo (stE T N) (isF T N) 0 256 := ⟨_, rfl⟩
    have hB2 : B < 256 := by rw [hB]; exact stE_b h18 _ _
    have pB := pc_le B
    refine ⟨if nI j = 0 then nI (pc B) else nI B, I1, L1, I2, ?_, ?_, f1, f2⟩
    · rw [if_neg (nI_pos (show j < 2 ^ 31 by omega)), if_neg (show ¬ (1 : Int32) < nI j from nI_nlt (a := 1) (b := j) (by omega) (by decide)), e1, obind]
      unfold mX11_elect_l19
      obtain ⟨W, F, F0, Fs, Fz, Fm⟩ := fo_tr (stE T N) (isF T N) 0 256
      rw [← hB] at Fz
      have Fb : ∀ i, F i < 256 := fun i => by obtain ⟨m, hm⟩ := Fm i; rw [hm]; exact stE_b h18 _ m
      have key := lp_traj (f := fun s : Int32 × Int32 => mX11_elect_l19f 100 (nI j) (hk σ I1 L1) s.1 s.2) (cntB (isF T N) 256) (fun i => (nI (F i), nI i)) (if nI j = 0 then nI (pc B) else nI B, hk σ I1 L1) (fun i hi => ?_) ?_
      · rw [F0] at key; exact key
      · show mX11_elect_l19f 100 (nI j) (hk σ I1 L1) (nI (F i)) (nI i) = some (Sum.inl (nI (F (i + 1)), nI (i + 1)))
        obtain ⟨q1, q2, q3, q4⟩ := Fs i hi
        obtain ⟨p1, _⟩ := t1.row q2 q3 q4
        have hb := Fb i
        have hw := ws_lt (T := T) h18 (W i)
        have l1 := pc_le (F i)
        have l2 := pc_le (ws T N (W i))
        obtain ⟨d1, d2⟩ := pcd (pc (ws T N (W i))) (by omega) (pc (F i)) (by omega)
        unfold mX11_elect_l19f mX11_elect_b71 mX11_elect_b74
        rw [gTal, gI_o 5 (n := 6) rfl, obind, t1.1, c_lt hi (by omega), gTal, g6, RF_426_0, at_r (n := 256) rfl (by omega) (by omega), obind, p1, cbits_ok _ hw, obind, cbits_ok _ hb, obind, q1, nI_1, c_ltd (by omega) (by omega)]
        unfold stE
        by_cases h1 : pc (F i) < pc (ws T N (W i))
        · rw [if_pos (d1.mpr h1), if_pos h1]
        · rw [if_neg (fun z => h1 (d1.mp z)), if_neg h1]
          by_cases h2 : pc (ws T N (W i)) = pc (F i)
          · rw [if_pos (d2.mpr h2), if_pos h2]
            by_cases h3 : ws T N (W i) < F i
            · rw [if_pos h3, if_pos h3]
            · rw [if_neg h3, if_neg h3]
          · rw [if_neg (fun z => h2 (d2.mp z)), if_neg h2]
      · show mX11_elect_l19f 100 (nI j) (hk σ I1 L1) (nI (F (cntB (isF T N) 256))) (nI (cntB (isF T N) 256)) = _
        unfold mX11_elect_l19f
        rw [Fz, gTal, gI_o 5 (n := 6) rfl, obind, t1.1, c_nlt (Nat.le_refl _) (by omega), cbits_ok _ hB2, obind]
        rcases (show j = 0 ∨ j = 1 by omega) with rfl | rfl
        · rw [if_pos (show nI 0 = 0 from rfl), if_pos (show nI 0 = 0 from rfl), xts]
        · rw [if_neg (by decide), if_neg (by decide), xts]
    · rw [if_pos s433, in_1, hdy, obind, bI_if0, if_neg nTF, e2, obind]
      unfold mX12_elect_l19
      have fend : fo (stE T N) (lft T N) 0 256 = B := by rw [fo_lft inE_1 inE_2 inE_3, hB]
      obtain ⟨M, hM⟩ : ∃ M, M = fo (stE T N) (lft T N) 0 := ⟨_, rfl⟩
      have Ms : ∀ i, M (i + 1) = if lft T N i = true then stE T N (M i) i else M i := fun i => by rw [hM]; exact foS _ _ _ _
      have Mb : ∀ i, M i < 256 := fun i => by rw [hM]; exact stE_b h18 _ i
      rw [← hM] at fend
      have M0 : M 0 = 0 := by rw [hM]; rfl
      have key := lp_traj (f := fun s : Int32 × Int32 => mX12_elect_l19f 433 (nI j) (hk σ I2 L1) s.1 s.2) 256 (fun i => (nI (M i), nI i)) (if nI j = 0 then nI (pc B) else nI B, hk σ I2 L1) (fun i hi => ?_) ?_
      · rw [M0] at key; exact key
      · show mX12_elect_l19f 433 (nI j) (hk σ I2 L1) (nI (M i)) (nI i) = some (Sum.inl (nI (M (i + 1)), nI (i + 1)))
        have hb := Mb i
        have hw := ws_lt (T := T) h18 i
        have l1 := pc_le (M i)
        have l2 := pc_le (ws T N i)
        have step : ∀ s, s < 256 → mX12_elect_b44 433 (nI j) (nI (M i)) (nI i) (nI s) (hk σ I2 L1) = some (Sum.inl (nI (if pc (M i) < pc s then s else if pc s = pc (M i) then (if s < M i then s else M i) else M i), nI (i + 1))) := by
          intro s hs'
          have l3 := pc_le s
          unfold mX12_elect_b44 mX12_elect_b76 mX12_elect_b81 mX12_elect_b82
          rw [mbits_n hs', obind, mbits_n hb, obind, c_ltd (by omega) (by omega), obind, obind, c_eqd (by omega) (by omega), c_ltd (by omega) (by omega), nI_1]
          by_cases h1 : pc (M i) < pc s
          · rw [if_pos h1, if_pos h1]
          · rw [if_neg h1, if_neg h1]
            by_cases h2 : pc s = pc (M i)
            · rw [if_pos h2, if_pos h2]
              by_cases h3 : s < M i
              · rw [if_pos h3, if_pos h3]
              · rw [if_neg h3, if_neg h3]
            · rw [if_neg h2, if_neg h2]
        unfold mX12_elect_l19f
        rw [show (256 : Int32) = nI 256 from rfl, c_lt hi (by omega), m.left hi, obind, bI_if0, Ms]
        rcases Bool.eq_false_or_eq_true (lft T N i) with q | q
        · rw [q, if_neg nTF, if_pos rfl, g454, obind, Wn.ld hs hi q, obind, step _ hw]; rfl
        · rw [q, if_pos rfl, if_neg (by decide), show (0 : Int32) = nI 0 from rfl, step 0 (by omega)]
          have p0 : pc 0 = 0 := by decide
          rw [p0, if_neg (by omega)]
          by_cases h2 : 0 = pc (M i)
          · rw [if_pos h2]
            by_cases h3 : 0 < M i
            · exfalso
              have z : ∀ n, n < 256 → 0 = pc n → n = 0 := by decide +kernel
              have := z _ hb h2; omega
            · rw [if_neg h3]
          · rw [if_neg h2]
      · show mX12_elect_l19f 433 (nI j) (hk σ I2 L1) (nI (M 256)) (nI 256) = _
        unfold mX12_elect_l19f
        rw [fend, if_neg (by decide), mbits_n hB2, obind]
        rcases (show j = 0 ∨ j = 1 by omega) with rfl | rfl
        · rw [if_pos (show nI 0 = 0 from rfl), if_pos (show nI 0 = 0 from rfl), xts]
        · rw [if_neg (by decide), if_neg (by decide), xts]
  · refine ⟨-1, I, L, I, ?_, ?_, FrC.rf, FrM.rf⟩
    · rcases ix_cases y with hy | ⟨j, hj, rfl⟩
      · rw [if_pos hy]
      · rw [nI_toInt hj] at hdy
        have := of_decide_eq_false hdy
        rw [if_neg (nI_pos hj), if_pos (show (1 : Int32) < nI j from nI_lt (show 1 < j by omega) hj)]
    · rw [if_pos s433, in_1, obind, bI_if0, hdy, if_pos rfl]
end Q10
