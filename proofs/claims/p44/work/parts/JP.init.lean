/-! THE CLASS FROM THE START -/
theorem sp0 : SP T00 0 := by
  refine ⟨⟨by show (0 : Nat) ≤ 8; omega, by show (0 : Nat) ≤ 5; omega, by show (0 : Nat) ≤ 6; omega, by show (0 : Nat) ≤ 6; omega, by omega, rfl, rfl⟩, fun f hf => absurd hf (Nat.not_lt_zero _), fun k hk' => absurd hk' (Nat.not_lt_zero _), fun k _ hk' => ⟨?_, ?_, ?_⟩, fun p hp => absurd hp (Nat.not_lt_zero _), fun p hp => absurd hp (Nat.not_lt_zero _), fun p hp => absurd hp (Nat.not_lt_zero _), fun p hp => absurd hp (Nat.not_lt_zero _), 0, by show (0 : Nat) < 2 ^ 0; omega, rfl⟩
  · unfold T00; rw [if_neg (by omega)]
  · unfold T00; rw [if_neg (by omega)]
  · unfold T00; rw [if_neg (by omega)]
section Fin0
variable {σ : Sg} {I : Nat → Nat → Int32} {L : Nat → Nat → Int64} {la s lim : Nat} {T : Nat → Nat}
theorem fin0_ok (hla : isLa la) (hs : s = 268 ∨ s = 275) (hS : SP T lim) (hD : SDr I L la s T lim) (hO : SOk L) (h7 : T 7 ≤ 480) (c1 : I la 1 = nI (T 1)) (c2 : I la 2 = nI (T 2)) (c13 : I la 13 = nI (T 7)) (c7 : ∀ x, x < T 7 → I (la + 7) x = nI (cc (cT T x))) :
    ∃ I' L', mX1_finish la 108 (hk σ I L) = some (hk σ I' L') ∧ CLw I' L' la T ∧ (∀ x, x ≠ 108 → x ≠ la → x ≠ la + 10 → I' x = I x) ∧ ∀ x, (x < 109 ∨ 111 < x) → (x < la + 12 ∨ la + 78 ≤ x) → L' x = L x := by
  have hla' : la = 112 ∨ la = 190 := hla
  obtain ⟨⟨d0, d3, d4, d5, dm⟩, dO, dk, ds, dp', dq, ⟨dj, d2⟩, dst⟩ := hD
  obtain ⟨I1, hI1⟩ : ∃ I1, I1 = rowUp I la (updA (I la) 5 (nI (T 5))) := ⟨_, rfl⟩
  have ix : ∀ x, x ≠ la → I1 x = I x := fun x hx => by rw [hI1, rowUp_ne _ _ hx]
  have ik : ∀ k, k ≠ 5 → I1 la k = I la k := fun k hk' => by rw [hI1, rowUp_same, updA_ne _ _ hk']
  have i5 : I1 la 5 = nI (T 5) := by rw [hI1, rowUp_same, updA_same]
  obtain ⟨r, ke, kr⟩ := keepFirst_ok (σ := σ) (I := I1) hO (wPos hla) (by omega) dm hS.1.1
  have hO2 : SOk (rowUp L (la + 12) r) := fun f hf => by rw [rowUp_ne _ _ (by omega)]; exact hO f hf
  obtain ⟨hh, r2, L', e, f1, f2, f3, f4⟩ := fin34 (σ := σ) (I := I1) (L := rowUp L (la + 12) r) hla ⟨by rw [ik 1 (by omega)]; exact c1, by rw [ik 2 (by omega)]; exact c2, by rw [ik 4 (by omega)]; exact d4, fun k hk' => by rw [ix _ (by omega)]; exact (dk k hk').1, fun p hp' => by rw [ix _ (by omega)]; exact (dp' p hp').1⟩ hS h7 hO2 (fun x hx => by rw [ix _ (by omega)]; exact c7 x hx) (fun q hq => by
    obtain ⟨a, b, s1, s2, s3⟩ := dq q hq
    exact ⟨a, b, by rw [ix _ (by omega)]; exact s1, by rw [ix _ (by omega)]; exact s2, s3⟩) (fun f hf => by rw [ix _ (by omega)]; exact dO f hf) (fun k hk' i hi => by rw [ix _ (by omega), ix _ (by omega)]; exact (dk k hk').2.2 i hi) (fun p hp' => by rw [ix _ (by omega), ix _ (by omega)]; exact (dp' p hp').2)
  obtain ⟨I2, hI2⟩ : ∃ I2, I2 = rowUp (rowUp I1 108 hh) (la + 10) r2 := ⟨_, rfl⟩
  rw [← hI2] at e
  have jx : ∀ x, x ≠ 108 → x ≠ la + 10 → I2 x = I1 x := fun x a b => by rw [hI2, rowUp_ne _ _ b, rowUp_ne _ _ a]
  have c4 : ∀ k, k < T 2 → T (26 + k) ≤ 4 := fun k hk' => (hS.2.2.1 k hk').2.2.1
  have t2 := hS.1.2.1
  have t4 := hS.1.2.2.2.1
  refine ⟨I2, L', ?_, ⟨⟨?_, ?_, ?_, ?_, ?_, ?_⟩, fun f hf => ?_, fun k hk' => ⟨?_, ?_, f3 k hk', fun i hi => ⟨?_, ?_, f2.1 k hk' i hi⟩⟩, fun p hp' => ⟨?_, ?_, ?_, f2.2 p hp'⟩, fun x hx => ?_, fun w hw => ?_, ?_⟩, fun x a b c => by rw [jx x a c, ix x b], fun x a b => by rw [f4 x a (by omega), rowUp_ne _ _ (by omega)]⟩
  · have b18 : mX1_finish_b18 la 108 la (nI (T 5)) (hk σ I L) = some (hk σ I2 L') := by
      unfold mX1_finish_b18
      rw [sI_la hla, obind, ← hI1, gR_la hla, obind, RF_la_17 σ hla, gI_la hla, obind, ik 1 (by omega), c1, ke, obind, e]
    have l9 := hS.1.2.2.2.2.1
    unfold mX1_finish
    rw [if_pos (slaw hla), gI_la hla, obind, d5, c_0 (by omega)]
    have a6 := hS.1.2.2.2.2.2.1
    by_cases q : lim = 0
    · rw [if_pos q] at a6
      rw [a6] at b18
      rw [if_pos q]
      exact b18
    · rw [if_neg q] at a6
      rw [a6] at b18
      rw [if_neg q, obind]
      exact b18
  · rw [jx la (by omega) (by omega), ik 0 (by omega)]; exact d0
  · rw [jx la (by omega) (by omega), ik 1 (by omega)]; exact c1
  · rw [jx la (by omega) (by omega), ik 2 (by omega)]; exact c2
  · rw [jx la (by omega) (by omega), ik 4 (by omega)]; exact d4
  · rw [jx la (by omega) (by omega)]; exact i5
  · rw [jx la (by omega) (by omega), ik 13 (by omega)]; exact c13
  · rw [jx _ (by omega) (by omega), ix _ (by omega)]; exact dO f hf
  · rw [jx _ (by omega) (by omega), ix _ (by omega)]; exact (dk k hk').1
  · rw [jx _ (by omega) (by omega), ix _ (by omega)]; exact (dk k hk').2.1
  · rw [jx _ (by omega) (by omega), ix _ (by omega)]; exact ((dk k hk').2.2 i hi).1
  · rw [jx _ (by omega) (by omega), ix _ (by omega)]; exact ((dk k hk').2.2 i hi).2
  · rw [jx _ (by omega) (by omega), ix _ (by omega)]; exact (dp' p hp').1
  · rw [jx _ (by omega) (by omega), ix _ (by omega)]; exact (dp' p hp').2.1
  · rw [jx _ (by omega) (by omega), ix _ (by omega)]; exact (dp' p hp').2.2
  · rw [jx _ (by omega) (by omega), ix _ (by omega)]; exact c7 x hx
  · rw [hI2, rowUp_same]; exact f1 w hw
  · rw [f4 _ (by omega) (by omega), rowUp_same]
    exact kr.cg fun w _ => by unfold poss; rw [Bool.and_comm]
end Fin0
section CInit
variable {n : En} {k M a s m c j v la : Nat} {l : List (Nat × Nat × Nat)} {I : Nat → Nat → Int32} {L : Nat → Nat → Int64}
theorem gR_V (ha : a < k) (h : SH n a = (c + 1, m)) (hv : lookR a j l = v) : gR c j a (Qh n k M l I L) = some v := by rw [gR_Q ha h, hv]
theorem sd0 (h1 : ∀ k, (k < 6 ∨ k = 13) → I la k = 0) (h2 : ∀ k, k < 5 → I (la + 3) k = 0 ∧ I (la + 5) k = 0) (h3 : ∀ q, q < 26 → I (la + 8) q = 0 ∧ I (la + 9) q = 0) (hp : Rw (L (la + 12)) (fun _ => true)) (h4 : ∀ k, k < 9 → I s k = 0) : SDr I L la s T00 0 := by
  refine ⟨⟨h1 0 (by omega), h1 3 (by omega), h1 4 (by omega), h1 5 (by omega), hp⟩, fun f hf => absurd hf (Nat.not_lt_zero _), fun k hk' => absurd hk' (Nat.not_lt_zero _), fun k hk' => ?_, fun p hp => absurd hp (Nat.not_lt_zero _), fun q hq => ⟨0, 0, (h3 q hq).1, (h3 q hq).2, Nat.le_refl _, Nat.le_refl _, fun s hs => absurd hs (Nat.not_lt_zero _)⟩, ⟨fun j hj _ => h4 j hj, h4 2 (by omega)⟩, fun k hk' => absurd hk' (Nat.not_lt_zero _)⟩
  rw [(h2 k hk').2]
  unfold T00
  rw [if_neg (by omega)]
  rfl
theorem cls_ok (hZ : ∀ x, 100 ≤ x → I x = (fun _ => 0) ∧ L x = fun _ => 0) (hO : SOk L) : ∃ I6 L6, mX11_init 100 (Qh n 101 30 [] I L) = some (hk (sg0 (n9 n 21415)) I6 L6) ∧ CLw I6 L6 112 T00 ∧ RS I6 ∧ Th I6 ∧ (∀ x, x ≠ 107 → x ≠ 421 → x ≠ 108 → (x < 112 ∨ 123 ≤ x) → I6 x = I x) ∧ ∀ x, (x < 109 ∨ 111 < x) → (x < 124 ∨ 190 ≤ x) → L6 x = L x := by
  obtain ⟨r7, e8, hr7⟩ := i8 (n := n) (M := 30 + 2 + 480 + 5) (l := (100, 0, 101) :: (101, 0, 102) :: []) (I := I) (L := L) (fun x hx => hZ x (by omega)) (by unfold lB; decide +kernel)
  have hZ2 : ∀ x, 108 ≤ x → rowUp I 107 r7 x = (fun _ => 0) ∧ L x = fun _ => 0 := fun x hx => by rw [rowUp_ne _ _ (by omega)]; exact hZ x (by omega)
  obtain ⟨I1, hI1⟩ : ∃ I1, I1 = rowUp I 107 r7 := ⟨_, rfl⟩
  rw [← hI1] at e8 hZ2
  obtain ⟨r4, e9, hr4⟩ := i9 (n := n) (M := 30 + 2 + 480 + 5 + 1454 + 7 + 64 + 64 + 7 + 20 + 1506 + 20 + 1506 + 15 + 48 + 15 + 48 + 9 + 1 + 4 + 5 + 18 + 63 * 16 + 63 * 2 + 1 + 4 + 1 + 4 + 1 + 4 + 5) (l := (100, 11, 418) :: (418, 0, 419) :: (100, 10, 416) :: (416, 0, 417) :: (100, 9, 414) :: (414, 0, 415) :: (100, 8, 285) :: (zHl 287 400 2 ++ ((zHl 286 288 16 ++ ((285, 1, 287) :: (285, 0, 286) :: (100, 7, 282) :: (282, 4, 275) :: (282, 3, 190) :: (282, 1, 108) :: (282, 0, 103) :: (282, 2, 283) :: (283, 0, 284) :: (100, 6, 275) :: (zSl 275 ++ ((100, 5, 268) :: (zSl 268 ++ ((100, 4, 190) :: (zW 190 31 ++ ((zLa 190 ++ ((100, 3, 112) :: (zW 112 31 ++ ((zLa 112 ++ ((100, 2, 108) :: (108, 2, 111) :: (108, 1, 110) :: (108, 0, 109) :: (100, 1, 103) :: (103, 3, 107) :: (103, 2, 106) :: (103, 1, 105) :: (103, 0, 104) :: (100, 0, 101) :: (101, 0, 102) :: []))))))))))))))))) (I := I1) (L := L) (fun x hx => hZ2 x (by omega)) (by unfold lB; decide +kernel)
  obtain ⟨I2, hI2⟩ : ∃ I2, I2 = rowUp I1 421 r4 := ⟨_, rfl⟩
  rw [← hI2] at e9
  have hZ3 : ∀ x, 422 ≤ x → I2 x = (fun _ => 0) ∧ L x = fun _ => 0 := fun x hx => by rw [hI2, rowUp_ne _ _ (by omega)]; exact hZ2 x (by omega)
  have i2 : ∀ x, x ≠ 107 → x ≠ 421 → I2 x = I x := fun x a b => by rw [hI2, rowUp_ne _ _ b, hI1, rowUp_ne _ _ a]
  obtain ⟨I3, r5, ce, c1, c2, c3, c4, c5⟩ := clear_ok (σ := sg0 (n9 n 21415)) (la := 112) (I := I2) (L := L) (Or.inl rfl)
  have z3 : ∀ x, 122 ≤ x → x ≠ 421 → I3 x = fun _ => 0 := fun x a b => by rw [c5 x (by omega), i2 x (by omega) b]; exact (hZ x (by omega)).1
  have hO3 : SOk (rowUp L 124 r5) := fun f hf => by rw [rowUp_ne _ _ (by omega)]; exact hO f hf
  obtain ⟨I6, L6, fe, clw, f6, g6⟩ := fin0_ok (σ := sg0 (n9 n 21415)) (la := 112) (s := 275) (T := T00) (lim := 0) (I := I3) (L := rowUp L 124 r5) (Or.inl rfl) (Or.inr rfl) sp0 (sd0 c2 c3 c4 (by show Rw (rowUp L 124 r5 124) _; rw [rowUp_same]; exact c1) (fun k hk' => by rw [z3 275 (by omega) (by omega)])) hO3 (by show (0 : Nat) ≤ 480; omega) (c2 1 (by omega)) (c2 2 (by omega)) (c2 13 (by omega)) (fun x hx => absurd hx (Nat.not_lt_zero _))
  refine ⟨I6, L6, ?_, clw, fun w hw => ?_, fun w hw => ?_, fun x a b c d => ?_, fun x a b => ?_⟩
  · unfold mX11_init mX7_init mX4_init mX2_init mX6_init mX3_init
    rw [newO_Q (by omega) (by rfl) (hZ _ (by omega)) (by unfold lB; decide +kernel), b2s, newA_Q (by omega) (by rfl) (hZ _ (by omega)) (by unfold lB; decide +kernel), b2s, sR_Q (by omega) (by rfl), obind, obind, sR_Q (by omega) (by rfl), obind, newO_Q (by omega) (by rfl) (hZ _ (by omega)) (by unfold lB; decide +kernel), b2s]
    rw [e8, obind, sR_Q (by omega) (by rfl), obind, newO_Q (by omega) (by rfl) (hZ2 _ (by omega)) (by unfold lB; decide +kernel), b2s, newA_Q (by omega) (by rfl) (hZ2 _ (by omega)) (by unfold lB; decide +kernel), b2s, sR_Q (by omega) (by rfl), obind, newA_Q (by omega) (by rfl) (hZ2 _ (by omega)) (by unfold lB; decide +kernel), b2s, sR_Q (by omega) (by rfl), obind, newA_Q (by omega) (by rfl) (hZ2 _ (by omega)) (by unfold lB; decide +kernel), b2s, sR_Q (by omega) (by rfl), obind, obind, sR_Q (by omega) (by rfl), obind, newO_Q (by omega) (by rfl) (hZ2 _ (by omega)) (by unfold lB; decide +kernel), b2s, iLa (Or.inl rfl) (fun x hx => hZ2 x (by omega)) (by unfold lB; decide +kernel), obind, sR_Q (by omega) (by rfl), obind, newO_Q (by omega) (by rfl) (hZ2 _ (by omega)) (by unfold lB; decide +kernel), b2s, iLa (Or.inr rfl) (fun x hx => hZ2 x (by omega)) (by unfold lB; decide +kernel), obind, sR_Q (by omega) (by rfl), obind, newO_Q (by omega) (by rfl) (hZ2 _ (by omega)) (by unfold lB; decide +kernel), b2s, i5 (Or.inl rfl) (fun x hx => hZ2 x (by omega)) (by unfold lB; decide +kernel), obind, sR_Q (by omega) (by rfl), obind, newO_Q (by omega) (by rfl) (hZ2 _ (by omega)) (by unfold lB; decide +kernel), b2s, i5 (Or.inr (Or.inl rfl)) (fun x hx => hZ2 x (by omega)) (by unfold lB; decide +kernel), obind, sR_Q (by omega) (by rfl), obind, newO_Q (by omega) (by rfl) (hZ2 _ (by omega)) (by unfold lB; decide +kernel), b2s, gR_V (v := 103) (by omega) (by rfl) (by decide +kernel), obind, gR_V (v := 108) (by omega) (by rfl) (by decide +kernel), obind, gR_V (v := 190) (by omega) (by rfl) (by decide +kernel), obind, gR_V (v := 275) (by omega) (by rfl) (by decide +kernel), obind, newO_Q (by omega) (by rfl) (hZ2 _ (by omega)) (by unfold lB; decide +kernel), b2s, i10 (by omega) (by rfl) (by omega) (by rfl) (hZ2 _ (by omega)) (by unfold lB; decide +kernel), obind, sR_Q (by omega) (by rfl), obind, sR_Q (by omega) (by rfl), obind, sR_Q (by omega) (by rfl), obind, sR_Q (by omega) (by rfl), obind, sR_Q (by omega) (by rfl), obind, obind, sR_Q (by omega) (by rfl), obind, newO_Q (by omega) (by rfl) (hZ2 _ (by omega)) (by unfold lB; decide +kernel), b2s, iHs (fun x hx => hZ2 x (by omega)) (by unfold lB; decide +kernel), obind, sR_Q (by omega) (by rfl), obind, newO_Q (by omega) (by rfl) (hZ2 _ (by omega)) (by unfold lB; decide +kernel), b2s, i10 (by omega) (by rfl) (by omega) (by rfl) (hZ2 _ (by omega)) (by unfold lB; decide +kernel), obind, sR_Q (by omega) (by rfl), obind, newO_Q (by omega) (by rfl) (hZ2 _ (by omega)) (by unfold lB; decide +kernel), b2s, i10 (by omega) (by rfl) (by omega) (by rfl) (hZ2 _ (by omega)) (by unfold lB; decide +kernel), obind, sR_Q (by omega) (by rfl), obind, newO_Q (by omega) (by rfl) (hZ2 _ (by omega)) (by unfold lB; decide +kernel), b2s, i10 (by omega) (by rfl) (by omega) (by rfl) (hZ2 _ (by omega)) (by unfold lB; decide +kernel), obind, sR_Q (by omega) (by rfl), obind, newO_Q (by omega) (by rfl) (hZ2 _ (by omega)) (by unfold lB; decide +kernel), b2s]
    rw [e9, obind, sR_Q (by omega) (by rfl), obind, newO_Q (by omega) (by rfl) (hZ3 _ (by omega)) (by unfold lB; decide +kernel), b2s, obind, sR_Q (by omega) (by rfl), obind, newO_Q (by omega) (by rfl) (hZ3 _ (by omega)) (by unfold lB; decide +kernel), b2s, newA_Q (by omega) (by rfl) (hZ3 _ (by omega)) (by unfold lB; decide +kernel), b2s, sR_Q (by omega) (by rfl), obind, newA_Q (by omega) (by rfl) (hZ3 _ (by omega)) (by unfold lB; decide +kernel), b2s, sR_Q (by omega) (by rfl), obind, newA_Q (by omega) (by rfl) (hZ3 _ (by omega)) (by unfold lB; decide +kernel), b2s, sR_Q (by omega) (by rfl), obind, newA_Q (by omega) (by rfl) (hZ3 _ (by omega)) (by unfold lB; decide +kernel), b2s, sR_Q (by omega) (by rfl), obind, newA_Q (by omega) (by rfl) (hZ3 _ (by omega)) (by unfold lB; decide +kernel), b2s, sR_Q (by omega) (by rfl), obind, obind, sR_Q (by omega) (by rfl), obind, newA_Q (by omega) (by rfl) (hZ3 _ (by omega)) (by unfold lB; decide +kernel), b2s, sR_Q (by omega) (by rfl), obind, gR_V (v := 112) (by omega) (by rfl) (by decide +kernel), obind]
    have q : (mX1_clear 112 (hk (sg0 (n9 n 21415)) I2 L)).bind (fun h85 => (gR 11 3 100 h85).bind fun v86 => (gR 11 2 100 h85).bind fun v87 => (mX1_finish v86 v87 h85).bind fun h89 => some h89) = some (hk (sg0 (n9 n 21415)) I6 L6) := by
      rw [ce, obind, show gR 11 3 100 (hk (sg0 (n9 n 21415)) I3 (rowUp L (112 + 12) r5)) = some 112 from rfl, obind, show gR 11 2 100 (hk (sg0 (n9 n 21415)) I3 (rowUp L (112 + 12) r5)) = some 108 from rfl, obind]
      show (mX1_finish 112 108 (hk (sg0 (n9 n 21415)) I3 (rowUp L 124 r5))).bind _ = _
      rw [fe, obind]
    rw [← Qh_hk (I := I2) (L := L)] at q
    exact q
  · rw [f6 107 (by omega) (by omega) (by omega), c5 107 (by omega), hI2, rowUp_ne _ _ (by omega), hI1, rowUp_same]; exact hr7 w hw
  · rw [f6 421 (by omega) (by omega) (by omega), c5 421 (by omega), hI2, rowUp_same]; exact hr4 w hw
  · rw [f6 x c (by omega) (by omega), c5 x (by omega), i2 x a b]
  · rw [g6 x a (by omega), rowUp_ne _ _ (by omega)]
end CInit
