/-! THE LAW, three suits -/
/-- what holds ahead of a suit -/
def HS (σ : Sg) (I : Nat → Nat → Int32) (L : Nat → Nat → Int64) (oa na ma ua su n c s : Nat) : Prop := LPw (hk σ I L) oa na ma ua su ∧ (∃ F nl, LWi (hk σ I L) n F nl) ∧ CXX σ I L ∧ SZ σ c s
section JL
variable {σ σ' : Sg} {I I' I1 I2 : Nat → Nat → Int32} {L L' L1 L2 : Nat → Nat → Int64} {T N M : Nat → Nat} {a n k f how so u oa na ma ua su i c s kk most : Nat} {P : Nat → Nat → Nat} {K : Nat → Bool} {Q : Nat → Nat → Nat} {b : Bool}
theorem LWs.lf (w : LWs (hk σ I L) oa na ma ua su) : LF σ := by
  obtain ⟨_, ⟨w2, w3, w3', _⟩, ⟨m', hm', w4⟩, _⟩ := w
  exact ⟨w2, w3, w3', m', hm', w4⟩
theorem b24_ok (h : HS σ I L oa na ma ua su n c s) (hm1 : 1 ≤ most) (hm8 : most ≤ 8) (hn : n < 10000000) (x2 : Nat) :
    ∃ σ' I' L' su' n', mL_holds_b24 99 (nI x2) 99 (nI most) (hk σ I L) = some (.inl (nI (x2 + 1), hk σ' I' L')) ∧ n' ≤ n + 3000 ∧ HS σ' I' L' oa na ma ua su' n' (c + 19320) (s + 2028000) := by
  obtain ⟨lp, ⟨F, nl, li⟩, cx, sz⟩ := h
  have lf := lp.1.lf
  obtain ⟨j, hj, e1⟩ := l_draw (L := L) lf (F := F) (n := n) ⟨li.2.1, li.1⟩ (by omega) (m := 5) (by omega) (by omega)
  have e1 : mL_draw 99 (5 : Int32) (hk σ I L) = some (nI j, hk σ (rowUp I 99 (updA (I 99) 2 (nI (n + 1)))) L) := e1
  obtain ⟨I1, hI1⟩ : ∃ I1, I1 = rowUp I 99 (updA (I 99) 2 (nI (n + 1))) := ⟨_, rfl⟩
  rw [← hI1] at e1
  have i1 : ∀ x, x ≠ 99 → I1 x = I x := fun x hx => by rw [hI1, rowUp_ne _ _ hx]
  have lp1 : LPw (hk σ I1 L) oa na ma ua su := lp.hk rfl (fun x hx => i1 x (by omega))
  have li1 : LWi (hk σ I1 L) (n + 1) F nl := by
    unfold LWi
    show I1 99 2 = _ ∧ I1 99 3 = _ ∧ I1 99 5 = _
    rw [hI1, rowUp_same, updA_same, updA_ne _ _ (by omega), updA_ne _ _ (by omega)]
    exact ⟨rfl, li.2⟩
  have cx1 : CXX σ I1 L := by
    obtain ⟨x1, x2', ⟨T, N, a, P, K, Q, x3⟩, X, m, x4⟩ := cx
    refine ⟨x1, fun w hw => by rw [i1 107 (by omega)]; exact x2' w hw, ⟨T, N, a, P, K, Q, ?_⟩, X, m, x4.fr ⟨i1 101 (by omega), i1 102 (by omega)⟩⟩
    rw [hI1]
    exact x3.row _ (by omega)
  obtain ⟨q, f, A⟩ := lp1.2.1
  obtain ⟨h', su', e2, σ2, I2, L2, T, n2, P, K, Q, rfl, lf2, cb2, kx2, tc2, li2, hn2, lp2, sz2⟩ := l_told lp1.1 li1 lp1.2.2 A cx1 hm1 hm8 (cnts := 1 + j) (by omega) (by omega)
  have r2 : RB σ2 I2 L2 T (bgN T) 0 P K Q n2 := ⟨lf2, cb2, li2⟩
  have z2 : ZZ σ2 I2 L2 T oa na ma ua su' := ⟨kx2, tc2, lp2⟩
  have s2 : SZ σ2 (c + 19000) (s + 1900000) := by
    have a1 : hpN (hk σ2 I2 L2) = (gN σ2).2.2.1 := rfl
    have a2 : hpM (hk σ2 I2 L2) = (gN σ2).2.2.2 := rfl
    have a3 : hpN (hk σ I1 L) = (gN σ).2.2.1 := rfl
    have a4 : hpM (hk σ I1 L) = (gN σ).2.2.2 := rfl
    rw [a1, a2, a3, a4] at sz2
    exact ⟨Nat.le_trans sz2.1 (Nat.add_le_add_right sz.1 _), Nat.le_trans sz2.2 (Nat.add_le_add_right sz.2 _)⟩
  obtain ⟨σ3, I3, L3, K3, Q3, e3, ⟨N3, a3, P3, n3, hn3, r3⟩, z3, s3⟩ := l41_ok r2.rne z2 s2 (by omega) x2
  obtain ⟨nl3, _, hnl3⟩ := wb_of32 (I3 99 5)
  refine ⟨σ3, I3, L3, su', n3, ?_, by omega, z3.2.2, ⟨T 1, nl3, r3.2.2.2, r3.2.2.1, hnl3⟩, ⟨z3.1.1, z3.1.2.1, ⟨T, N3, a3, P3, K3, Q3, r3.2.1⟩, z3.2.1⟩, ⟨Nat.le_trans s3.1 (Nat.le_of_eq (Nat.add_assoc c 19000 320)), Nat.le_trans s3.2 (Nat.le_of_eq (Nat.add_assoc s 1900000 128000))⟩⟩
  unfold mL_holds_b24
  rw [e1, b2s, show (1 : Int32) = nI 1 from rfl, nI_add, e2, b2s, if_neg (by decide)]
  exact e3
theorem holds3_ok {h0 : Hp} (k16 : (hpS h0 99).1 = 16) (e0 : sR 15 1 99 1 h0 = some (hk σ I L)) (h : HS σ I L oa na ma ua su 0 c s) :
    ∃ hf, mL_holds 99 1 h0 = some (1, hf) ∧ hpN hf ≤ c + 57960 ∧ hpM hf ≤ s + 6084000 := by
  unfold mL_holds mL_holds_l7
  rw [if_pos k16, e0, obind]
  obtain ⟨o, eo, hf, rfl, r⟩ := lp_inv (f := fun s : (Int32 × Hp) => mL_holds_l7f 99 s.1 s.2) 3
    (fun i st => ∃ σ' I' L' su' n', st = (nI i, hk σ' I' L') ∧ n' ≤ 3000 * i ∧ HS σ' I' L' oa na ma ua su' n' (c + 19320 * i) (s + 2028000 * i))
    (fun o => ∃ hf, o = (1, hf) ∧ hpN hf ≤ c + 57960 ∧ hpM hf ≤ s + 6084000)
    (fun i st hi hQ => by
      obtain ⟨σ1, I1, L1, su1, n1, rfl, hn1, h1⟩ := hQ
      have m3 : c + 19320 * (i + 1) = c + 19320 * i + 19320 := by rw [Nat.mul_succ, Nat.add_assoc]
      have m4 : s + 2028000 * (i + 1) = s + 2028000 * i + 2028000 := by rw [Nat.mul_succ, Nat.add_assoc]
      have fin : ∀ {most : Nat}, 1 ≤ most → most ≤ 8 → mL_holds_l7f 99 (nI i) (hk σ1 I1 L1) = mL_holds_b24 99 (nI i) 99 (nI most) (hk σ1 I1 L1) → ∃ t, mL_holds_l7f 99 (nI i) (hk σ1 I1 L1) = some (.inl t) ∧ ∃ σ' I' L' su' n', t = (nI (i + 1), hk σ' I' L') ∧ n' ≤ 3000 * (i + 1) ∧ HS σ' I' L' oa na ma ua su' n' (c + 19320 * (i + 1)) (s + 2028000 * (i + 1)) := by
        intro most a1 a2 go
        obtain ⟨σ2, I2, L2, su2, n2, e2, hn2, h2⟩ := b24_ok h1 a1 a2 (by omega) i
        exact ⟨_, by rw [go, e2], σ2, I2, L2, su2, n2, rfl, by rw [Nat.mul_succ]; exact Nat.le_trans hn2 (Nat.add_le_add_right hn1 _), by rw [m3, m4]; exact h2⟩
      by_cases i0 : i = 0
      · refine fin (most := 8) (by omega) (by omega) ?_
        unfold mL_holds_l7f
        rw [if_pos (show nI i < (3 : Int32) from nI_lt (b := 3) hi (by omega)), c_0 (by omega), if_pos i0]
        rfl
      · refine fin (most := 6) (by omega) (by omega) ?_
        unfold mL_holds_l7f
        rw [if_pos (show nI i < (3 : Int32) from nI_lt (b := 3) hi (by omega)), c_0 (by omega), if_neg i0]
        rfl)
    (fun st hQ => by
      obtain ⟨σ1, I1, L1, su1, n1, rfl, hn1, h1⟩ := hQ
      refine ⟨(1, hk σ1 I1 L1), ?_, _, rfl, h1.2.2.2.1, h1.2.2.2.2⟩
      show mL_holds_l7f 99 (nI 3) (hk σ1 I1 L1) = _
      unfold mL_holds_l7f
      rw [if_neg (show ¬ nI 3 < (3 : Int32) by decide), xts])
    (s := ((0 : Int32), hk σ I L)) ⟨σ, I, L, su, 0, rfl, by omega, h⟩
  exact ⟨hf, eo, r⟩
end JL
