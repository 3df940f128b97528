section Expr
variable {σ τ : Sg} {I I' J J' I1 I2 I3 Ja : Nat → Nat → Int32} {L L' M M' L1 L2 : Nat → Nat → Int64} {X : Nat → Nat} {n m i la off t1 t2 fl pl dp h0 N kk : Nat} {W : Nat → List Nat} {T T' : Nat → Nat}
theorem PE.go (h : PE I J M X n m i la off W t1 t2 T dp) (hla : isLa la) (x2 : PCk I' X n m (i + 1)) (x3 : CF2 I I') (y2 : PMk J' M' X n (i + 1)) (y3 : MF2 J M J' M') : PE I' J' M' X n m (i + 1) la off W t1 t2 T dp :=
  ⟨x2, y2, h.2.2.1.cf hla x3, h.2.2.2.1.mf y3, h.2.2.2.2.1.mf y3, h.2.2.2.2.2.1.cf hla x3, by have := h.2.2.2.2.2.2.1; omega, by rw [y3.2.2.2.1]; exact h.2.2.2.2.2.2.2⟩
theorem several_ok (hla : isLa la) (hg : gpl σ = la) (hoff : off ≤ 480) (hd : dp ≤ 5)
    (innE : dp < 5 → ∀ h, h ≤ h0 + 5 → ∀ {I J M i T}, PE I J M X n m i la off W t1 t2 T (dp + 1) → ER σ τ I J L M X n m i la off W t1 t2 T (dp + 1) h ((mg_X2_readEither (N + 3)).1 282 (nI (dp + 1)) (hk σ I L)) ((mg_X12_both (N + 3)).2.1 433 (hk τ J M)))
    {I J : Nat → Nat → Int32} {M : Nat → Nat → Int64} {i : Nat} {T : Nat → Nat}
    (h : PE I J M X n m i la off W t1 t2 T dp) : ER σ τ I J L M X n m i la off W t1 t2 T dp h0 ((mg_X2_readEither (N + 4)).2.2.2 282 (nI dp) (hk σ I L)) ((mg_X12_both (N + 4)).2.2.2 433 (hk τ J M)) := by
  show ER σ τ I J L M X n m i la off W t1 t2 T dp h0 (mX2_readSeveral_F (mg_X2_readEither (N + 3)) 282 (nI dp) (hk σ I L)) (mX12_someOf_F (mg_X12_both (N + 3)) 433 (hk τ J M))
  unfold mX2_readSeveral_F mX12_someOf_F
  rw [if_pos s282, if_pos s433]
  rcases num_ok (σ := σ) (τ := τ) (L := L) h.1 h.2.1 (lo := 0) (hi := 6) (by omega) (by omega) with ⟨kk, _, hkk, ⟨I1, a1, a2, a3, a4⟩, J1, M1, b1, b2', b3⟩ | ⟨fl, pl, ⟨I1, a1, a2, a3⟩, v, J1, M1, b1, b2', b3⟩
  · have a1 : mX2_number 282 (0 : Int32) (6 : Int32) (hk σ I L) = some (1, hk σ I1 L) := a1
    have b1 : mX12_number 433 (0 : Int32) (6 : Int32) (hk τ J M) = some (nI kk, hk τ J1 M1) := b1
    have p1 := h.go hla a2 a3 b2' b3
    rw [a1, b2s, if_neg (show ¬ (1 : Int32) = 0 by decide), gPI, obind, a4, b1, b2s, isWord_ok (w := 10) p1.2.1.2.1 p1.2.1.2.2 (by omega), obind]
    rcases exp_ok (σ := σ) (τ := τ) (L := L) p1.1 p1.2.1 (c := 266) (by omega) (by omega) with ⟨_, ⟨I2, x1, x2, x3, x4⟩, J2, M2, y1, y2, y3⟩ | ⟨_, fl, pl, ⟨I2, x1, x2, x3⟩, J2, M2, y1, y2, y3⟩
    · have x1 : mX2_expect 282 (266 : Int32) (hk σ I1 L) = some (1, hk σ I2 L) := x1
      have p2 := p1.go hla x2 x3 y2 y3
      have hlt := ck_lt X n (pz X n (i + 1 + 1))
      rw [x1, b2s, if_neg (show ¬ (1 : Int32) = 0 by decide), nextKind_ok p2.1, obind, show (256 + 10 : Nat) = 266 from rfl, y1, obind, show (40 : Int32) = nI 40 from rfl, ckd (by omega), isSign_ok p2.2.1.2.1 p2.2.1.2.2 (by decide), obind]
      unfold mX2_readSeveral_b49 mX12_someOf_b32 mX12_someOf_b50
      by_cases q40 : ck X n (pz X n (i + 1 + 1)) = 40
      · rw [if_pos q40, if_neg (show ¬ bI (decide (ck X n (pz X n (i + 1 + 1)) = 40)) = 0 by rw [decide_eq_true q40]; decide)]
        rcases opens_ok (σ := σ) (τ := τ) (L := L) p2 hla (Or.inr q40) hd with ⟨hd5, J3, M3, e1, p3, g1⟩ | ⟨hd5, I3, J3, e0, c1, f1, e1, bb, g1, r1⟩
        · rcases exp_ok (σ := σ) (τ := τ) (L := L) p2.1 p2.2.1 (c := 40) (by omega) (by omega) with ⟨_, ⟨I3, z1, z2, z3, z4⟩, _⟩ | ⟨q, _⟩
          · have z1 : mX2_expect 282 (40 : Int32) (hk σ I2 L) = some (1, hk σ I3 L) := z1
            have p4 : PE I3 J3 M3 X n m (i + 1 + 1 + 1) la off W t1 t2 T (dp + 1) := ⟨z2, p3.2.1, p2.2.2.1.cf hla z3, p3.2.2.2.1, p3.2.2.2.2.1, p2.2.2.2.2.2.1.cf hla z3, p3.2.2.2.2.2.2.1, p3.2.2.2.2.2.2.2⟩
            rw [if_pos (show nI dp < (5 : Int32) from nI_lt (b := 5) hd5 (by omega)), z1, b2s, if_neg (show ¬ (1 : Int32) = 0 by decide), e1, obind, gMI, obind, if_pos p4.2.1.2.2]
            have cf := (a3.c3 (la := la) hla).tr ((x3.c3 hla).tr (z3.c3 hla))
            have mf := b3.x.tr (y3.x.tr g1)
            rcases sevl_ok (σ := σ) (τ := τ) (L := L) (h0 := h0) (N := N) (dp := dp) (kk := kk) hla hg hoff hkk (fun h hh => innE hd5 h hh) 6 0 (by omega) p4 with ⟨I4, J4, M4, i4, T4, d1, d2, p5, l4, l5, a5, r5, f5, g5⟩ | ⟨fl, pl, I4, J4, M4, T4, d1, d2, q1, q2, q3, q4, q5, q6⟩
            · exact Or.inl ⟨I4, J4, M4, i4, T4, d1, d2, p5, by omega, by omega, a5, r5, cf.tr f5, mf.tr g5⟩
            · exact Or.inr ⟨fl, pl, I4, J4, M4, T4, d1, d2, q1, cf.tr q2, q3, mf.tr q4, q5, q6⟩
          · exact absurd q40 q
        · obtain ⟨J4, e4, g4⟩ := l51_bad (τ := τ) (M := M2) (mg_X12_both (N + 3)) bb (nI kk) (0 : Int32)
          rw [if_neg (show ¬ nI dp < (5 : Int32) by rw [hd5]; decide), e0, e1, obind, gMI, obind, if_neg bb.ne, e4]
          exact Or.inr ⟨4, _, I3, J4, M2, T, rfl, rfl, c1, (a3.c3 (la := la) hla).tr ((x3.c3 hla).tr f1), bb.bf g4, b3.x.tr (y3.x.tr (g1.tr g4.x)), r1.bf g4, fun _ _ _ => rfl⟩
      · obtain ⟨I3, e3, c3, d3⟩ := fail_b2 (σ := σ) (L := L) p2.1 (f := 1) (by omega) (by omega)
        obtain ⟨u, w1, w2, w3⟩ := wrong_ok (σ := τ) p2.2.1 (f := 1) (by omega) (by omega)
        have w1 : mX12_wrong 433 (1 : Int32) (hk τ J2 M2) = some (hk τ (rowUp J2 433 u) M2) := w1
        have w2 : MFl (rowUp J2 433 u) 1 (pz X n (i + 1 + 1)) := by simpa using w2
        obtain ⟨J4, e4, g4⟩ := b32_bad (τ := τ) (M := M2) (mg_X12_both (N + 3)) w2 (nI kk)
        have ex : mX2_expect 282 (nI 40) (hk σ I2 L) = some (0, hk σ I3 L) := by
          unfold mX2_expect
          rw [if_pos s282, nextKind_ok p2.1, obind, ckd (by omega), if_neg q40]
          exact e3
        have ex : mX2_expect 282 (40 : Int32) (hk σ I2 L) = some (0, hk σ I3 L) := ex
        unfold mX12_someOf_b32 mX12_someOf_b50 at e4
        rw [if_neg q40, ex, b2s, if_pos rfl, if_pos (show bI (decide (ck X n (pz X n (i + 1 + 1)) = 40)) = 0 by rw [decide_eq_false q40]; rfl), w1, obind, e4]
        exact Or.inr ⟨1, _, I3, J4, M2, T, rfl, rfl, c3, (a3.c3 (la := la) hla).tr ((x3.c3 hla).tr (d3.c3 hla)), w2.bf g4, b3.x.tr (y3.x.tr (w3.x.tr g4.x)), (p2.2.2.2.2.1.mf w3).bf g4, fun _ _ _ => rfl⟩
    · have x1 : mX2_expect 282 (266 : Int32) (hk σ I1 L) = some (0, hk σ I2 L) := x1
      obtain ⟨J4, e4, g4⟩ := b32_bad (τ := τ) (M := M2) (mg_X12_both (N + 3)) y2 (nI kk)
      rw [x1, b2s, if_pos rfl, show (256 + 10 : Nat) = 266 from rfl, y1, obind, isSign_bad y2.ne, obind, if_pos (show bI false = 0 from rfl), wrong_bad y2, obind, e4]
      exact Or.inr ⟨fl, pl, I2, J4, M2, T, rfl, rfl, x2, (a3.c3 (la := la) hla).tr (x3.c3 hla), y2.bf g4, b3.x.tr (y3.x.tr g4.x), (p1.2.2.2.2.1.mf y3).bf g4, fun _ _ _ => rfl⟩
  · have a1 : mX2_number 282 (0 : Int32) (6 : Int32) (hk σ I L) = some (0, hk σ I1 L) := a1
    have b1 : mX12_number 433 (0 : Int32) (6 : Int32) (hk τ J M) = some (v, hk τ J1 M1) := b1
    obtain ⟨J4, e4, g4⟩ := some_bad1 (τ := τ) (M := M1) (mg_X12_both (N + 3)) b2' v
    rw [a1, b2s, if_pos rfl, b1, b2s, e4]
    exact Or.inr ⟨fl, pl, I1, J4, M1, T, rfl, rfl, a2, a3.c3 hla, b2'.bf g4, b3.x.tr g4.x, (h.2.2.2.2.1.mf b3).bf g4, fun _ _ _ => rfl⟩
/-- all of EXPR -/
theorem expr_all (hla : isLa la) (hg : gpl σ = la) (hoff : off ≤ 480) : ∀ N,
    (∀ dp h, dp ≤ 5 → h ≤ 7 * dp + 2 → 4 * (5 - dp) + 5 ≤ N → ∀ {I J M i T}, PE I J M X n m i la off W t1 t2 T dp → ER σ τ I J L M X n m i la off W t1 t2 T dp h ((mg_X2_readEither N).2.2.1 282 (nI dp) (hk σ I L)) ((mg_X12_both N).2.2.1 433 (hk τ J M))) ∧
    (∀ dp h, dp ≤ 5 → h ≤ 7 * dp + 1 → 4 * (5 - dp) + 6 ≤ N → ∀ {I J M i T}, PE I J M X n m i la off W t1 t2 T dp → ER σ τ I J L M X n m i la off W t1 t2 T dp h ((mg_X2_readEither N).2.1 282 (nI dp) (hk σ I L)) ((mg_X12_both N).1 433 (hk τ J M))) ∧
    (∀ dp h, dp ≤ 5 → h ≤ 7 * dp → 4 * (5 - dp) + 7 ≤ N → ∀ {I J M i T}, PE I J M X n m i la off W t1 t2 T dp → ER σ τ I J L M X n m i la off W t1 t2 T dp h ((mg_X2_readEither N).1 282 (nI dp) (hk σ I L)) ((mg_X12_both N).2.1 433 (hk τ J M))) ∧
    (∀ dp h, dp ≤ 5 → h ≤ 7 * dp + 2 → 4 * (5 - dp) + 4 ≤ N → ∀ {I J M i T}, PE I J M X n m i la off W t1 t2 T dp → ER σ τ I J L M X n m i la off W t1 t2 T dp h ((mg_X2_readEither N).2.2.2 282 (nI dp) (hk σ I L)) ((mg_X12_both N).2.2.2 433 (hk τ J M))) := by
  intro N
  induction N with
  | zero => exact ⟨fun _ _ _ _ h => by omega, fun _ _ _ _ h => by omega, fun _ _ _ _ h => by omega, fun _ _ _ _ h => by omega⟩
  | succ N ih =>
    obtain ⟨i1, i2, i3, i4⟩ := ih
    refine ⟨fun dp h hd hh hN {I J M i T} p => ?_, fun dp h hd hh hN {I J M i T} p => ?_, fun dp h hd hh hN {I J M i T} p => ?_, fun dp h hd hh hN {I J M i T} p => ?_⟩
    · exact one_ok hla hg hoff hd (by omega) (by omega) (fun hd5 {I J M i T} p => i3 (dp + 1) h (by omega) (by omega) (by omega) p) (fun hd5 {I J M i T} p => i1 (dp + 1) h (by omega) (by omega) (by omega) p) (fun p _ => i4 dp h hd hh (by omega) p) p
    · exact every_ok hla hg hoff (fun h' hh' {I J M i T} p => i1 dp h' hd (by omega) (by omega) p) p
    · exact either_ok hla hg hoff (fun h' hh' {I J M i T} p => i2 dp h' hd (by omega) (by omega) p) p
    · obtain ⟨N', rfl⟩ : ∃ N', N = N' + 3 := ⟨N - 3, by omega⟩
      exact several_ok hla hg hoff hd (fun hd5 h' hh' {I J M i T} p => i3 (dp + 1) h' (by omega) (by omega) (by omega) p) p
/-- EXPR, from no depth -/
theorem exprE (hla : isLa la) (hg : gpl σ = la) (hoff : off ≤ 480) {I J : Nat → Nat → Int32} {M : Nat → Nat → Int64} {i : Nat} {T : Nat → Nat} (h : PE I J M X n m i la off W t1 t2 T 0) : ER σ τ I J L M X n m i la off W t1 t2 T 0 0 (mX2_readEither 40 282 (0 : Int32) (hk σ I L)) (mX12_either 40 433 (hk τ J M)) :=
  (expr_all hla hg hoff 40).2.2.1 0 0 (by omega) (by omega) (by omega) h
end Expr
