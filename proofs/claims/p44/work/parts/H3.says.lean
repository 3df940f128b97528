/-! LINES of a suit: what counts say -/
section H3
variable {σ : Sg} {I I' J I1 I2 I3 Ja : Nat → Nat → Int32} {L L' L1 L2 : Nat → Nat → Int64} {X : Nat → Nat} {n m i la off t1 t2 dp h0 N kk lim s v0 : Nat} {T T' : Nat → Nat} {R R' : List (Nat × Nat)} {v : Vt}
theorem CF2.fs (f : CF2 I I') : FS la s I L I' L := ⟨fun x a _ _ _ => f x a, fun _ _ _ _ => rfl⟩
theorem SDr.cf (h : SDr I L la s T lim) (hla : isLa la) (hs : s = 268 ∨ s = 275) (f : CF2 I I') : SDr I' L la s T lim := by
  have hla' : la = 112 ∨ la = 190 := hla
  obtain ⟨⟨d0, d3, d4, d5, dm⟩, dO, dk, ds, dp', dq, ⟨dj, d2⟩, dst⟩ := h
  have f1 : ∀ x, x ≠ 282 → I' x = I x := f
  unfold SDr sl
  simp (disch := omega) only [f1]
  exact ⟨⟨d0, d3, d4, d5, dm⟩, dO, dk, ds, dp', dq, ⟨dj, d2⟩, dst⟩
theorem or_sub {S So f : Nat} (h : So &&& S = So) : (So ||| 2 ^ f) &&& (S ||| 2 ^ f) = So ||| 2 ^ f ∧ So &&& (S ||| 2 ^ f) = So := by
  have hb : ∀ i, (So.testBit i && S.testBit i) = So.testBit i := fun i => by rw [← Nat.testBit_and, h]
  constructor
  · apply Nat.eq_of_testBit_eq
    intro i
    have := hb i
    rw [Nat.testBit_and, Nat.testBit_or, Nat.testBit_or]
    cases h1 : So.testBit i <;> cases h2 : S.testBit i <;> cases h3 : (2 ^ f).testBit i <;> simp_all
  · apply Nat.eq_of_testBit_eq
    intro i
    have := hb i
    rw [Nat.testBit_and, Nat.testBit_or]
    cases h1 : So.testBit i <;> cases h2 : S.testBit i <;> cases h3 : (2 ^ f).testBit i <;> simp_all
/-- a line that says a FACT -/
theorem l_says {k f so : Nat} {NG : List (Nat × Nat)} (hla : isLa la) (hg : gpl σ = la) (hgs : gps σ = s) (hs : s = 268 ∨ s = 275) (hng : (NG = [] ∧ so = 1) ∨ (NG = [(33, 0)] ∧ so = 0)) (hk' : k < T 2) (hf : f < T 1) (hno : (T (51 + k)).testBit f = false) (h : SV I L X n m la s T lim i ((263, v0) :: (2, 97 + k) :: (NG ++ ((2, f + 1) :: (59, 0) :: R')))) (hv : VW T lim v) :
    LQ σ I L X n m la s T (i + (4 + NG.length)) R' (v.1, v.2.1, v.2.2.1, v.2.2.2.1, v.2.2.2.2.1, updA v.2.2.2.2.2.1 k (v.2.2.2.2.2.1 k ||| 2 ^ f), v.2.2.2.2.2.2) (mX2_readSays 282 (hk σ I L)) := by
  have hla' : la = 112 ∨ la = 190 := hla
  have hst : isSt s := by unfold isSt; omega
  have hso : so < 2 := by rcases hng with ⟨_, q⟩ | ⟨_, q⟩ <;> omega
  obtain ⟨hp, hS, hD, hO⟩ := h
  obtain ⟨⟨a1, a2, a3, a4, a5, a6, a7⟩, b, c, d, ee, ff, gq, hh, w0, w01, w02⟩ := id hS
  obtain ⟨c1, c2, c3, c4, c5, c6, c7⟩ := c k hk'
  have p256 := ev_lt a1
  have co : T (56 + k) ≤ T (51 + k) := by rw [← c6]; exact Nat.and_le_right
  have qo : (T (56 + k)).testBit f = false := by rw [← c6, Nat.testBit_and, hno, Bool.and_false]
  have p1 := hp.nx hla
  obtain ⟨Ik, x1, y1, y2, y3, y4⟩ := count_ok (σ := σ) (L := L) p1.1 (by rw [hg]; exact hla) (by rw [hg]; exact p1.2.2.1) hk' p1.2.1
  have p1' := p1.go hla y1 y2 y3
  have ik : CF2 I Ik := CF2.up.tr y3
  -- behind the sign
  have neg : ∃ Ij j, CF2 I Ij ∧ j + 1 = i + (3 + NG.length) ∧ PE Ij X n m la 0 (T 1) (T 2) T j ((2, f + 1) :: (59, 0) :: R') ∧ ∀ {o : Option (Int32 × Hp)}, mX2_readSays_b53 282 (nI k) (nI so) (hk σ Ij L) = o → mX2_readSays 282 (hk σ I L) = o := by
    have go : ∀ {o : Option (Int32 × Hp)}, (if nI (hdk (NG ++ ((2, f + 1) :: (59, 0) :: R'))) = (33 : Int32) then mX2_readSays_b38 282 (nI k) (0 : Int32) (hk σ Ik L) else mX2_readSays_b38 282 (nI k) (1 : Int32) (hk σ Ik L)) = o → mX2_readSays 282 (hk σ I L) = o := fun {o} e => by
      unfold mX2_readSays
      rw [if_pos s282, gPI, obind, hp.1.2.2.2.2.2.1, sI_ok s282, obind, setI_hk, hpI_hk', nI_1, x1, b2s, if_neg (by decide), gPI, obind, y4, at_kind p1'.1 p1'.2.1, obind]
      exact e
    rcases hng with ⟨rfl, rfl⟩ | ⟨rfl, rfl⟩
    · refine ⟨Ik, i + 1 + 1, ik, by show i + 1 + 1 + 1 = i + (3 + 0); omega, p1', fun {o} e => go ?_⟩
      rw [show hdk ([] ++ (2, f + 1) :: (59, 0) :: R') = 2 from rfl, if_neg (by decide)]
      unfold mX2_readSays_b38
      rw [if_neg (by decide)]
      exact e
    · have p1'' : PE Ik X n m la 0 (T 1) (T 2) T (i + 1 + 1) ((33, 0) :: (2, f + 1) :: (59, 0) :: R') := p1'
      have p3 := p1''.nx hla
      refine ⟨_, i + 1 + 1 + 1, ik.tr CF2.up, by show i + 1 + 1 + 1 + 1 = i + (3 + 1); omega, p3, fun {o} e => go ?_⟩
      rw [show hdk ([(33, 0)] ++ (2, f + 1) :: (59, 0) :: R') = 33 from rfl, if_pos (by rfl)]
      unfold mX2_readSays_b38
      rw [if_pos (by rfl), gPI, obind, p1''.1.2.2.2.2.2.1, sI_ok s282, obind, setI_hk, hpI_hk', nI_1]
      exact e
  obtain ⟨Ij, j, fj, ej, pj, go⟩ := neg
  obtain ⟨I2, z1, z2, z3, x3, x4⟩ := fact_ok (σ := σ) (L := L) pj.1 (by rw [hg]; exact hla) (by rw [hg]; exact pj.2.2.1) hf pj.2.1
  have pf2 := pj.go hla z2 z3 x3
  have x3c : CF2 I I2 := fj.tr x3
  have hD2 := hD.cf hla hs x3c
  have s5 := (hD2.2.2.2.2.2.2.2 k hk').2.2.2.2.1
  have s6 := (hD2.2.2.2.2.2.2.2 k hk').2.2.2.2.2
  have p2 := (pf2.irow (x := s + 5) (updA (I2 (s + 5)) k (nI (tlS (T (51 + k)) f so))) (by omega) (by omega) (by omega) (by omega) (by omega)).irow (x := s + 6) (updA (I2 (s + 6)) k (nI (tlO (T (56 + k)) f so))) (by omega) (by omega) (by omega) (by omega) (by omega)
  obtain ⟨I3, hI3⟩ : ∃ I3, I3 = rowUp (rowUp I2 (s + 5) (updA (I2 (s + 5)) k (nI (tlS (T (51 + k)) f so)))) (s + 6) (updA (I2 (s + 6)) k (nI (tlO (T (56 + k)) f so))) := ⟨_, rfl⟩
  rw [← hI3] at p2
  have fx : ∀ x, x ≠ 282 → x ≠ s + 5 → x ≠ s + 6 → I3 x = I x := fun x a b c => by rw [hI3, rowUp_ne _ _ c, rowUp_ne _ _ b, x3c x a]
  obtain ⟨I4, v1, p3, x5⟩ := p2.semi (σ := σ) (L := L) hla
  have cl : (if nI so = 0 then mX2_readSays_b117 282 s (nI k) (nI f) (0 : Int32) (hk σ I2 L) else mX2_readSays_b117 282 s (nI k) (nI f) (1 : Int32) (hk σ I2 L)) = mX2_readSays_b117 282 s (nI k) (nI f) (nI so) (hk σ I2 L) := by
    rcases (show so = 0 ∨ so = 1 by omega) with rfl | rfl <;> rfl
  have e1 : mX2_readSays 282 (hk σ I L) = some (1, hk σ I4 L) := by
    refine go ?_
    unfold mX2_readSays_b53
    rw [z1, b2s, if_neg (show ¬ (1 : Int32) = 0 by decide), gDs, hgs, gR_st hst, obind, RF_st_13 σ hst, at_r (SH_st5 hst) (by omega) (by omega), obind, s5, gPI, obind, x4, has_nI (by omega) (by omega), obind, hno, if_pos (show bI false = 0 from rfl), gDs, hgs, obind, cl]
    unfold mX2_readSays_b117
    rw [tell_ok (σ := σ) (L := L) hst (by omega) (by omega) (by omega) s5 s6 (by omega) (by omega), obind, ← hI3]
    exact v1
  obtain ⟨So', hSo⟩ : ∃ So', So' = if so = 1 then T (56 + k) ||| 2 ^ f else T (56 + k) := ⟨_, rfl⟩
  obtain ⟨T', hT⟩ : ∃ T', T' = updA (updA T (51 + k) (T (51 + k) ||| 2 ^ f)) (56 + k) So' := ⟨_, rfl⟩
  have q2 := (p3.set (k := 51 + k) (T (51 + k) ||| 2 ^ f) (by omega) (by omega)).set (k := 56 + k) So' (by omega) (by omega)
  rw [← hT, show j + 1 + 1 = i + (4 + NG.length) by omega] at q2
  have eS : T' (51 + k) = T (51 + k) ||| 2 ^ f := by rw [hT, updA_ne _ _ (by omega), updA_same]
  have eO : T' (56 + k) = So' := by rw [hT, updA_same]
  have tn : ∀ j, j ≠ 51 + k → j ≠ 56 + k → T' j = T j := fun j a b => by rw [hT, updA_ne _ _ b, updA_ne _ _ a]
  have g : GR T T' := ⟨by rw [tn 7 (by omega) (by omega)]; exact Nat.le_refl _, fun j h1 h2 => tn j (by omega) (by omega), fun e he => ⟨tn _ (by omega) (by omega), tn _ (by omega) (by omega)⟩⟩
  have em : may T' = may T := g.mayc hS (tn 3 (by omega) (by omega)) (fun k' _ => tn _ (by omega) (by omega))
  have ef : fst0 T' = fst0 T := fst0_cg (tn 2 (by omega) (by omega)) (fun k' _ => tn _ (by omega) (by omega))
  have lS : tlS (T (51 + k)) f so = T (51 + k) ||| 2 ^ f := by unfold tlS; rw [if_pos hso]
  have lO : tlO (T (56 + k)) f so = So' := by
    unfold tlO
    rw [hSo]
    by_cases e : so = 1
    · rw [if_pos e, if_pos e]
    · rw [if_neg e, if_neg e, rmv_no qo]
  have pf : (2 : Nat) ^ f < 2 ^ T 1 := Nat.pow_lt_pow_right (by omega) hf
  have sub : So' &&& (T (51 + k) ||| 2 ^ f) = So' := by
    rw [hSo]
    split
    · exact (or_sub c6).1
    · exact (or_sub c6).2
  have i4 : ∀ x, x ≠ 282 → x ≠ s + 5 → x ≠ s + 6 → I4 x = I x := fun x a b c => by rw [x5 x a, fx x a b c]
  have i45 : I4 (s + 5) = updA (I (s + 5)) k (nI (T (51 + k) ||| 2 ^ f)) := by rw [x5 _ (by omega), hI3, rowUp_ne _ _ (by omega), rowUp_same, x3c _ (by omega), lS]
  have i46 : I4 (s + 6) = updA (I (s + 6)) k (nI So') := by rw [x5 _ (by omega), hI3, rowUp_same, x3c _ (by omega), lO]
  obtain ⟨⟨d0, d3, d4, d5, dm⟩, dO, dk, ds, dp', dq, ⟨dj, d2⟩, dst⟩ := hD
  refine ⟨I4, L, T', lim, e1, ⟨by rw [tn 1 (by omega) (by omega), tn 2 (by omega) (by omega)]; exact q2, ⟨⟨?_, ?_, ?_, ?_, a5, ?_, ?_⟩, fun f hf => ?_, fun k2 hk2 => ?_, fun k2 h1 h2 => ?_, fun p hp => ?_, fun k2 hk2 => ?_, fun e he => ?_, fun s hs' => ?_, w0, ?_, ?_⟩, ⟨⟨?_, ?_, ?_, ?_, ?_⟩, fun f hf => ?_, fun k2 hk2 => ?_, fun k2 hk2 => ?_, fun p hp => ?_, fun q hq => ?_, ⟨fun j h1 h2 => ?_, ?_⟩, fun k2 hk2 => ?_⟩, hO⟩, ⟨by rw [tn 1 (by omega) (by omega)]; exact hv.1, by rw [tn 2 (by omega) (by omega)]; exact hv.2.1, by rw [tn 3 (by omega) (by omega)]; exact hv.2.2.1, by rw [tn 4 (by omega) (by omega)]; exact hv.2.2.2.1, hv.2.2.2.2.1, fun k2 hk2 => by
    show T' (51 + k2) = updA v.2.2.2.2.2.1 k (v.2.2.2.2.2.1 k ||| 2 ^ f) k2
    rw [updA_at]
    by_cases e : k2 = k
    · rw [if_pos e, e, eS, hv.2.2.2.2.2.1 k (by omega)]
    · rw [if_neg e, tn (51 + k2) (by omega) (by omega)]; exact hv.2.2.2.2.2.1 k2 hk2, fun k2 hk2 => by rw [tn (61 + k2) (by omega) (by omega)]; exact hv.2.2.2.2.2.2.1 k2 hk2, fun w => by rw [em]; exact hv.2.2.2.2.2.2.2 w⟩, tn 0 (by omega) (by omega), ⟨fun x a b c d => i4 x a (by omega) (by omega), fun _ _ _ _ => rfl⟩⟩
  · rw [tn 1 (by omega) (by omega)]; exact a1
  · rw [tn 2 (by omega) (by omega)]; exact a2
  · rw [tn 3 (by omega) (by omega)]; exact a3
  · rw [tn 4 (by omega) (by omega)]; exact a4
  · rw [tn 5 (by omega) (by omega)]; exact a6
  · rw [tn 6 (by omega) (by omega), tn 3 (by omega) (by omega), tn 4 (by omega) (by omega), tn 2 (by omega) (by omega), ndT_cg (fun k2 h2 => tn _ (by omega) (by omega))]; exact a7
  · rw [tn 1 (by omega) (by omega)] at hf
    rw [tn (8 + f) (by omega) (by omega)]; exact b f hf
  · rw [tn 2 (by omega) (by omega)] at hk2
    obtain ⟨c1, c2, c3, c4, c5', c6', c7⟩ := c k2 hk2
    refine ⟨?_, ?_, ?_, fun i hi' => ?_, ?_, ?_, ?_⟩
    · rw [tn (16 + k2) (by omega) (by omega)]; exact c1
    · rw [tn (21 + k2) (by omega) (by omega)]; exact c2
    · rw [tn (26 + k2) (by omega) (by omega)]; exact c3
    · rw [tn (26 + k2) (by omega) (by omega)] at hi'
      rw [tn (31 + 4 * k2 + i) (by omega) (by omega), tn 6 (by omega) (by omega)]
      exact c4 i hi'
    · rw [tn 1 (by omega) (by omega)]
      by_cases e : k2 = k
      · rw [e, eS]; exact Nat.or_lt_two_pow c5 pf
      · rw [tn (51 + k2) (by omega) (by omega)]; exact c5'
    · by_cases e : k2 = k
      · rw [e, eS, eO]; exact sub
      · rw [tn (51 + k2) (by omega) (by omega), tn (56 + k2) (by omega) (by omega)]; exact c6'
    · rw [tn (61 + k2) (by omega) (by omega), tn 2 (by omega) (by omega)]; exact c7
  · rw [tn 2 (by omega) (by omega)] at h1
    rw [tn (51 + k2) (by omega) (by omega), tn (56 + k2) (by omega) (by omega), tn (61 + k2) (by omega) (by omega)]
    exact d k2 h1 h2
  · rw [tn 4 (by omega) (by omega)] at hp
    rw [tn (66 + p) (by omega) (by omega), tn (72 + p) (by omega) (by omega), tn 2 (by omega) (by omega), tn 6 (by omega) (by omega)]
    exact ee p hp
  · rw [tn 3 (by omega) (by omega)] at hk2
    rw [tn (78 + k2) (by omega) (by omega), tn 6 (by omega) (by omega)]
    exact ff k2 hk2
  · rw [tn 6 (by omega) (by omega)] at he
    rw [(g.2.2 e he).1, (g.2.2 e he).2, tn 7 (by omega) (by omega)]
    exact ⟨g.wfc (hS.ew he).2 (hS.ew he).1, (hS.ew he).2⟩
  · rw [tn 7 (by omega) (by omega)] at hs'
    rw [g.ct hs', tn 1 (by omega) (by omega)]
    exact hh s hs'
  · rw [tn 1 (by omega) (by omega)]; exact w01
  · rw [em]; exact w02
  · rw [i4 la (by omega) (by omega) (by omega), tn 0 (by omega) (by omega)]; exact d0
  · rw [i4 la (by omega) (by omega) (by omega), tn 3 (by omega) (by omega)]; exact d3
  · rw [i4 la (by omega) (by omega) (by omega), tn 4 (by omega) (by omega)]; exact d4
  · rw [i4 la (by omega) (by omega) (by omega)]; exact d5
  · rw [em]; exact dm
  · rw [tn 1 (by omega) (by omega)] at hf
    rw [i4 _ (by omega) (by omega) (by omega), tn (8 + f) (by omega) (by omega)]; exact dO f hf
  · rw [tn 2 (by omega) (by omega)] at hk2
    have c3 := (c k2 hk2).2.2.1
    rw [i4 (la + 3) (by omega) (by omega) (by omega), i4 (la + 6) (by omega) (by omega) (by omega), i4 (la + 8) (by omega) (by omega) (by omega), i4 (la + 9) (by omega) (by omega) (by omega), tn (26 + k2) (by omega) (by omega), ef]
    refine ⟨(dk k2 hk2).1, (dk k2 hk2).2.1, fun i hi' => ?_⟩
    rw [tn (31 + 4 * k2 + i) (by omega) (by omega), tn _ (by omega) (by omega), tn _ (by omega) (by omega)]
    exact (dk k2 hk2).2.2 i hi'
  · rw [i4 _ (by omega) (by omega) (by omega), tn (61 + k2) (by omega) (by omega)]; exact ds k2 hk2
  · rw [tn 4 (by omega) (by omega)] at hp
    rw [i4 (la + 4) (by omega) (by omega) (by omega), i4 (la + 8) (by omega) (by omega) (by omega), i4 (la + 9) (by omega) (by omega) (by omega), tn (66 + p) (by omega) (by omega), tn (72 + p) (by omega) (by omega), tn (84 + _) (by omega) (by omega), tn (117 + _) (by omega) (by omega)]
    exact dp' p hp
  · exact g.slc (dq q hq) (by rw [i4 (la + 8) (by omega) (by omega) (by omega)]) (by rw [i4 (la + 9) (by omega) (by omega) (by omega)])
  · rw [i4 s (by omega) (by omega) (by omega)]; exact dj j h1 h2
  · rw [i4 s (by omega) (by omega) (by omega), tn 2 (by omega) (by omega)]; exact d2
  · rw [tn 2 (by omega) (by omega)] at hk2
    obtain ⟨g1, g2, g3, g4, g5, g6⟩ := dst k2 hk2
    rw [i4 (s + 1) (by omega) (by omega) (by omega), i4 (s + 2) (by omega) (by omega) (by omega), i4 (s + 3) (by omega) (by omega) (by omega), i4 (s + 4) (by omega) (by omega) (by omega), i45, i46, tn (16 + k2) (by omega) (by omega), tn (21 + k2) (by omega) (by omega)]
    refine ⟨g1, g2, g3, g4, ?_, ?_⟩
    · by_cases e : k2 = k
      · rw [e, eS, updA_same]
      · rw [tn (51 + k2) (by omega) (by omega), updA_ne _ _ e]; exact g5
    · by_cases e : k2 = k
      · rw [e, eO, updA_same]
      · rw [tn (56 + k2) (by omega) (by omega), updA_ne _ _ e]; exact g6

end H3
/-! LINES of a suit: counts told the same -/
section Uni
variable {R R' : Nat → Nat → Bool}
theorem rea_tr2 {m b c : Nat} (h2 : rea R m b c = true) : ∀ (n : Nat) {a : Nat}, rea R n a b = true → rea R (n + m) a c = true
  | 0, a, h => by rw [of_decide_eq_true h, Nat.zero_add]; exact h2
  | n + 1, a, h => by
    rcases rea_inv h with h | ⟨d, hd, h1, h3⟩
    · exact rea_mono (by omega) (rea_tr2 h2 n h)
    · have := rea_cons hd h1 (rea_tr2 h2 n h3)
      exact rea_mono (by omega) this
theorem rea_sy (hs : ∀ a c, R a c = true → R c a = true) : ∀ (n : Nat) {a b : Nat}, a < 8 → rea R n a b = true → ∃ m, rea R m b a = true
  | 0, a, b, _, h => ⟨0, by rw [of_decide_eq_true h]; exact rea_rf _ _⟩
  | n + 1, a, b, ha, h => by
    rcases rea_inv h with h | ⟨d, hd, h1, h3⟩
    · exact rea_sy hs n ha h
    · obtain ⟨m, hm⟩ := rea_sy hs n hd h3
      exact ⟨m + 1, rea_tr2 (rea_cons (n := 0) ha (hs _ _ h1) (rea_rf _ _)) m hm⟩
theorem fz_ed (hs : ∀ a c, R a c = true → R c a = true) {a c : Nat} (ha : a < 8) (hc : c < 8) (h : R a c = true) : fz R a = fz R c := by
  have key : ∀ a c, a < 8 → c < 8 → R a c = true → fz R a ≤ fz R c := fun a c ha hc h => by
    obtain ⟨h1, h2, h3⟩ := fz_spec (R := R) ha
    obtain ⟨g1, g2, g3⟩ := fz_spec (R := R) hc
    rcases Nat.lt_or_ge (fz R c) (fz R a) with q | q
    · have := h3 _ q
      rw [rea_8 ha (rea_cons hc h g2)] at this
      cases this
    · exact q
  have := key a c ha hc h
  have := key c a hc ha (hs a c h)
  omega
/-- the least of what is reached, once two more are joined -/
theorem fz_un {x y : Nat} (hs : ∀ a c, R a c = true → R c a = true) (hx : x < 8) (hy : y < 8) (hR : ∀ a c, a < 8 → c < 8 → (R' a c = true ↔ R a c = true ∨ (a = x ∧ c = y) ∨ (a = y ∧ c = x))) (hsub : ∀ a c, R a c = true → R' a c = true) {k : Nat} (hk' : k < 8) :
    fz R' k = if fz R k = fz R x ∨ fz R k = fz R y then min (fz R x) (fz R y) else fz R k := by
  refine fz_uniq (R := R') (F := fun k => if fz R k = fz R x ∨ fz R k = fz R y then min (fz R x) (fz R y) else fz R k) (fun a c ha hc h => ?_) (fun k hk' => ?_) hk'
  · show (if fz R a = fz R x ∨ fz R a = fz R y then min (fz R x) (fz R y) else fz R a) = (if fz R c = fz R x ∨ fz R c = fz R y then min (fz R x) (fz R y) else fz R c)
    rcases (hR a c ha hc).mp h with h | ⟨rfl, rfl⟩ | ⟨rfl, rfl⟩
    · rw [fz_ed hs ha hc h]
    · rw [if_pos (Or.inl rfl), if_pos (Or.inr rfl)]
    · rw [if_pos (Or.inr rfl), if_pos (Or.inl rfl)]
  · show rea R' 8 k (if fz R k = fz R x ∨ fz R k = fz R y then min (fz R x) (fz R y) else fz R k) = true ∧ (if fz R k = fz R x ∨ fz R k = fz R y then min (fz R x) (fz R y) else fz R k) ≤ k
    obtain ⟨h1, h2, h3⟩ := fz_spec (R := R) hk'
    obtain ⟨x1, x2, x3⟩ := fz_spec (R := R) hx
    obtain ⟨y1, y2, y3⟩ := fz_spec (R := R) hy
    have up : ∀ {n a b : Nat}, rea R n a b = true → rea R' n a b = true := fun {n a b} h => rea_sub hsub n a b h
    have exy : rea R' 1 x y = true := rea_cons (n := 0) hy ((hR x y hx hy).mpr (Or.inr (Or.inl ⟨rfl, rfl⟩))) (rea_rf _ _)
    have eyx : rea R' 1 y x = true := rea_cons (n := 0) hx ((hR y x hy hx).mpr (Or.inr (Or.inr ⟨rfl, rfl⟩))) (rea_rf _ _)
    obtain ⟨mx, sx⟩ := rea_sy hs 8 hx x2
    obtain ⟨my, sy⟩ := rea_sy hs 8 hy y2
    by_cases q : fz R k = fz R x ∨ fz R k = fz R y
    · rw [if_pos q]
      refine ⟨?_, by have := Nat.min_le_left (fz R x) (fz R y); have := Nat.min_le_right (fz R x) (fz R y); omega⟩
      rw [Nat.min_def]
      rcases q with q | q
      · rw [q] at h2
        split
        · exact up h2
        · exact rea_8 hk' (rea_tr2 (rea_tr2 (rea_tr2 (up y2) 1 exy) mx (up sx)) 8 (up h2))
      · rw [q] at h2
        split
        · exact rea_8 hk' (rea_tr2 (rea_tr2 (rea_tr2 (up x2) 1 eyx) my (up sy)) 8 (up h2))
        · exact up h2
    · rw [if_neg q]
      exact ⟨up h2, h1⟩
end Uni
section H3b
variable {σ : Sg} {I I' J I1 I2 I3 Ja : Nat → Nat → Int32} {L L' L1 L2 : Nat → Nat → Int64} {X : Nat → Nat} {n m i la off t1 t2 dp h0 N kk lim s v0 : Nat} {T T' : Nat → Nat} {R R' : List (Nat × Nat)} {v : Vt}
theorem unite_ok {F : Nat → Nat} {a b t2 : Nat} (hla : isLa la) (h2 : I la 2 = nI t2) (ht : t2 ≤ 5) (hF : ∀ k, k < t2 → I (la + 6) k = nI (F k) ∧ F k < 8) (ha : a < 8) (hb : b < 8) :
    ∃ r, mX1_unite la (nI a) (nI b) (hk σ I L) = some (hk σ (rowUp I (la + 6) r) L) ∧ ∀ k, k < t2 → r k = nI (if F k = a ∨ F k = b then min a b else F k) := by
  have sl : (hpS (hk σ I L) la).1 = 2 := by rw [hpS_hk, SH_la0 hla]
  have h0 : hk σ I L = hk σ (rowUp I (la + 6) (I (la + 6))) L := by rw [rowUp_id]
  unfold mX1_unite mX1_unite_l2
  rw [if_pos sl, h0]
  obtain ⟨o, e, r, rfl, hr⟩ := lp_inv (f := fun s : Int32 × Hp => mX1_unite_l2f la (nI a) (nI b) s.1 s.2) t2 (fun i st => ∃ r, st = (nI i, hk σ (rowUp I (la + 6) r) L) ∧ ∀ k, r k = if k < i then nI (if F k = a ∨ F k = b then min a b else F k) else I (la + 6) k)
    (fun o => ∃ r, o = hk σ (rowUp I (la + 6) r) L ∧ ∀ k, k < t2 → r k = nI (if F k = a ∨ F k = b then min a b else F k))
    (fun i st hi hQ => by
      obtain ⟨r, rfl, hr⟩ := hQ
      obtain ⟨f1, f2⟩ := hF i hi
      have ri : r i = nI (F i) := by rw [hr, if_neg (by omega), f1]
      have at6 : mX11_at (la + 6) (nI i) (hk σ (rowUp I (la + 6) r) L) = some (nI (F i)) := by rw [at_r (SH_la6 hla) (by omega) (by omega), rowUp_same, ri]
      have st : mX1_unite_b34 la (nI a) (nI b) (nI i) (hk σ (rowUp I (la + 6) r) L) = some (.inl (nI (i + 1), hk σ (rowUp I (la + 6) (updA r i (nI (min a b)))) L)) := by
        unfold mX1_unite_b34 mX1_unite_b47
        rw [gR_la hla, obind, RF_la_11 σ hla, min_d (by omega) (by omega), put_nI (n := 5) (by rw [hpS_hk]; exact SH_la6 hla) (by omega) (by omega), obind, setI_hk, hpI_hk', rowUp_same, rowUp_two, nI_1]
      by_cases q : F i = a ∨ F i = b
      · refine ⟨_, ?_, updA r i (nI (min a b)), rfl, fun k => ?_⟩
        · show mX1_unite_l2f la (nI a) (nI b) (nI i) (hk σ (rowUp I (la + 6) r) L) = _
          unfold mX1_unite_l2f
          rw [gI_la hla, obind, rowUp_ne _ _ (by omega), h2, c_lt hi (by omega), gR_la hla, obind, RF_la_11 σ hla, at6, obind, obind, at6, obind, c_eqd (by omega) (by omega), c_eqd (by omega) (by omega), st]
          by_cases qa : F i = a
          · rw [if_pos qa]
          · rw [if_neg qa, if_pos (by omega)]
        · rw [updA_at, hr]
          by_cases e : k = i
          · subst e; rw [if_pos rfl, if_pos (by omega), if_pos q]
          · rw [if_neg e]
            by_cases e2 : k < i
            · rw [if_pos e2, if_pos (show k < i + 1 by omega)]
            · rw [if_neg e2, if_neg (show ¬ k < i + 1 by omega)]
      · refine ⟨_, ?_, r, rfl, fun k => ?_⟩
        · show mX1_unite_l2f la (nI a) (nI b) (nI i) (hk σ (rowUp I (la + 6) r) L) = some (.inl (nI (i + 1), hk σ (rowUp I (la + 6) r) L))
          unfold mX1_unite_l2f mX1_unite_b47
          rw [gI_la hla, obind, rowUp_ne _ _ (by omega), h2, c_lt hi (by omega), gR_la hla, obind, RF_la_11 σ hla, at6, obind, obind, at6, obind, c_eqd (by omega) (by omega), c_eqd (by omega) (by omega), if_neg (by omega), if_neg (by omega), nI_1]
        · rw [hr]
          by_cases e : k = i
          · subst e; rw [if_neg (by omega), if_pos (by omega), if_neg q, f1]
          · by_cases e2 : k < i
            · rw [if_pos e2, if_pos (show k < i + 1 by omega)]
            · rw [if_neg e2, if_neg (show ¬ k < i + 1 by omega)])
    (fun st hQ => by
      obtain ⟨r, rfl, hr⟩ := hQ
      refine ⟨_, ?_, r, rfl, fun k hk' => by rw [hr, if_pos hk']⟩
      show mX1_unite_l2f la (nI a) (nI b) (nI t2) (hk σ (rowUp I (la + 6) r) L) = _
      unfold mX1_unite_l2f
      rw [gI_la hla, obind, rowUp_ne _ _ (by omega), h2, c_nlt (Nat.le_refl _) (by omega), xts])
    (s := ((0 : Int32), hk σ (rowUp I (la + 6) (I (la + 6))) L)) ⟨_, rfl, fun k => by rw [if_neg (Nat.not_lt_zero _)]⟩
  exact ⟨r, e, hr⟩
theorem smB_sy (T : Nat → Nat) (a c : Nat) (h : smB T a c = true) : smB T c a = true := by
  unfold smB at h ⊢
  revert h
  cases decide (a < T 2) <;> cases decide (c < T 2) <;> cases (T (61 + a)).testBit c <;> cases (T (61 + c)).testBit a <;> decide
theorem fst0_le8 (T : Nat → Nat) {k : Nat} (hk' : k < 8) : fst0 T k < 8 := by
  have := (fz_spec (R := smB T) hk').1
  unfold fst0
  omega
theorem fst0_un {x y : Nat} (hx : x < T 2) (hy : y < T 2) (h5 : T 2 ≤ 5) (hne : x ≠ y) (h2 : T' 2 = T 2) (h : ∀ k, k < T 2 → T' (61 + k) = if k = y then T (61 + y) ||| 2 ^ x else if k = x then T (61 + x) ||| 2 ^ y else T (61 + k)) {k : Nat} (hk' : k < 8) :
    fst0 T' k = if fst0 T k = fst0 T x ∨ fst0 T k = fst0 T y then min (fst0 T x) (fst0 T y) else fst0 T k := by
  have hb : ∀ a c, a < T 2 → c < T 2 → (T' (61 + a)).testBit c = ((T (61 + a)).testBit c || (decide (a = y ∧ c = x) || decide (a = x ∧ c = y))) := fun a c ha hc => by
    rw [h a ha]
    by_cases e : a = y
    · subst e
      rw [if_pos rfl, Nat.testBit_or, Nat.testBit_two_pow]
      congr 1
      by_cases e2 : x = c
      · subst e2; simp
      · have : ¬ (a = x ∧ c = a) := fun z => by omega
        simp [Ne.symm e2, e2, this]
    · rw [if_neg e]
      by_cases e2 : a = x
      · subst e2
        rw [if_pos rfl, Nat.testBit_or, Nat.testBit_two_pow]
        congr 1
        by_cases e3 : y = c
        · subst e3; simp
        · simp [e, Ne.symm e3, e3]
      · rw [if_neg e2]; simp [e, e2]
  have hm : ∀ a c, smB T' a c = (smB T a c || (decide (a = x ∧ c = y) || decide (a = y ∧ c = x))) := fun a c => by
    unfold smB
    rw [h2]
    by_cases ha : a < T 2
    · by_cases hc : c < T 2
      · rw [hb a c ha hc, hb c a hc ha, decide_eq_true ha, decide_eq_true hc]
        have e1 : decide (c = y ∧ a = x) = decide (a = x ∧ c = y) := decide_eq_decide.mpr (by omega)
        have e2 : decide (c = x ∧ a = y) = decide (a = y ∧ c = x) := decide_eq_decide.mpr (by omega)
        rw [e1, e2]
        cases decide (a = y ∧ c = x) <;> cases decide (a = x ∧ c = y) <;> cases (T (61 + a)).testBit c <;> cases (T (61 + c)).testBit a <;> rfl
      · rw [decide_eq_false hc, decide_eq_false (show ¬ (a = x ∧ c = y) by omega), decide_eq_false (show ¬ (a = y ∧ c = x) by omega)]
        simp
    · rw [decide_eq_false ha, decide_eq_false (show ¬ (a = x ∧ c = y) by omega), decide_eq_false (show ¬ (a = y ∧ c = x) by omega)]
      simp
  unfold fst0
  refine fz_un (R := smB T) (R' := smB T') (smB_sy T) (by omega) (by omega) (fun a c _ _ => ?_) (fun a c h => by rw [hm, h]; rfl) hk'
  rw [hm]
  simp
theorem SP.kp (h : SP T lim) (tn : ∀ j, j < 51 ∨ 66 ≤ j → T' j = T j) (c' : ∀ k, k < T 2 → T' (51 + k) < 2 ^ T 1 ∧ T' (56 + k) &&& T' (51 + k) = T' (56 + k) ∧ T' (61 + k) < 2 ^ T 2) (d' : ∀ k, T 2 ≤ k → k < 5 → T' (51 + k) = 0 ∧ T' (56 + k) = 0 ∧ T' (61 + k) = 0) : SP T' lim ∧ GR T T' ∧ may T' = may T := by
  have g : GR T T' := ⟨by rw [tn 7 (by omega)]; exact Nat.le_refl _, fun j h1 h2 => tn j (by omega), fun e he => ⟨tn _ (by omega), tn _ (by omega)⟩⟩
  have em : may T' = may T := g.mayc h (tn 3 (by omega)) (fun k' _ => tn _ (by omega))
  obtain ⟨⟨a1, a2, a3, a4, a5, a6, a7⟩, b, c, d, ee, ff, gq, hh, w0, w01, w02⟩ := id h
  refine ⟨⟨⟨?_, ?_, ?_, ?_, a5, ?_, ?_⟩, fun f hf => ?_, fun k2 hk2 => ?_, fun k2 h1 h2 => ?_, fun p hp => ?_, fun k2 hk2 => ?_, fun e he => ?_, fun s hs' => ?_, w0, ?_, ?_⟩, g, em⟩
  · rw [tn 1 (by omega)]; exact a1
  · rw [tn 2 (by omega)]; exact a2
  · rw [tn 3 (by omega)]; exact a3
  · rw [tn 4 (by omega)]; exact a4
  · rw [tn 5 (by omega)]; exact a6
  · rw [tn 6 (by omega), tn 3 (by omega), tn 4 (by omega), tn 2 (by omega), ndT_cg (fun k2 h2 => tn _ (by omega))]; exact a7
  · rw [tn 1 (by omega)] at hf
    rw [tn (8 + f) (by omega)]; exact b f hf
  · rw [tn 2 (by omega)] at hk2
    obtain ⟨c1, c2, c3, c4, c5', c6', c7⟩ := c k2 hk2
    obtain ⟨x1, x2, x3⟩ := c' k2 hk2
    refine ⟨?_, ?_, ?_, fun i hi' => ?_, by rw [tn 1 (by omega)]; exact x1, x2, by rw [tn 2 (by omega)]; exact x3⟩
    · rw [tn (16 + k2) (by omega)]; exact c1
    · rw [tn (21 + k2) (by omega)]; exact c2
    · rw [tn (26 + k2) (by omega)]; exact c3
    · rw [tn (26 + k2) (by omega)] at hi'
      rw [tn (31 + 4 * k2 + i) (by omega), tn 6 (by omega)]
      exact c4 i hi'
  · rw [tn 2 (by omega)] at h1
    exact d' k2 h1 h2
  · rw [tn 4 (by omega)] at hp
    rw [tn (66 + p) (by omega), tn (72 + p) (by omega), tn 2 (by omega), tn 6 (by omega)]
    exact ee p hp
  · rw [tn 3 (by omega)] at hk2
    rw [tn (78 + k2) (by omega), tn 6 (by omega)]
    exact ff k2 hk2
  · rw [tn 6 (by omega)] at he
    rw [(g.2.2 e he).1, (g.2.2 e he).2, tn 7 (by omega)]
    exact ⟨g.wfc (h.ew he).2 (h.ew he).1, (h.ew he).2⟩
  · rw [tn 7 (by omega)] at hs'
    rw [g.ct hs', tn 1 (by omega)]
    exact hh s hs'
  · rw [tn 1 (by omega)]; exact w01
  · rw [em]; exact w02
/-- a line that tells two COUNTS the same -/
theorem l_same {x y : Nat} (hla : isLa la) (hg : gpl σ = la) (hs : s = 268 ∨ s = 275) (hx : x < T 2) (hy : y < T 2) (q : x ≠ y) (qf : (T (61 + x)).testBit y = false) (h : SV I L X n m la s T lim i ((264, v0) :: (2, 97 + x) :: (2, 97 + y) :: (59, 0) :: R')) (hv : VW T lim v) :
    LQ σ I L X n m la s T (i + 4) R' (v.1, v.2.1, v.2.2.1, v.2.2.2.1, v.2.2.2.2.1, v.2.2.2.2.2.1, updA (updA v.2.2.2.2.2.2.1 x (v.2.2.2.2.2.2.1 x ||| 2 ^ y)) y (v.2.2.2.2.2.2.1 y ||| 2 ^ x), v.2.2.2.2.2.2.2) (mX2_readSame 282 (hk σ I L)) := by
  have hla' : la = 112 ∨ la = 190 := hla
  obtain ⟨hp, hS, hD, hO⟩ := h
  obtain ⟨⟨a1, a2, a3, a4, a5, a6, a7⟩, b, c, d, ee, ff, gq, hh, w0, w01, w02⟩ := id hS
  have p32 : (2 : Nat) ^ T 2 ≤ 2 ^ 5 := Nat.pow_le_pow_right (by omega) a2
  have p1 := hp.nx hla
  obtain ⟨I2, x1, x2, xt2, x3, x4⟩ := count_ok (σ := σ) (L := L) p1.1 (by rw [hg]; exact hla) (by rw [hg]; exact p1.2.2.1) hx p1.2.1
  have p2 := p1.go hla x2 xt2 x3
  have i2 : CF2 I I2 := CF2.up.tr x3
  have cx := (c x hx).2.2.2.2.2.2
  obtain ⟨I3, v1, v2, vt, v3, v4⟩ := count_ok (σ := σ) (L := L) p2.1 (by rw [hg]; exact hla) (by rw [hg]; exact p2.2.2.1) hy p2.2.1
  have p3 := p2.go hla v2 vt v3
  have i3 : CF2 I I3 := i2.tr v3
  have cy := (c y hy).2.2.2.2.2.2
  obtain ⟨I4, hI4⟩ : ∃ I4, I4 = rowUp I3 (la + 5) (updA (updA (I (la + 5)) x (nI (T (61 + x) ||| 2 ^ y))) y (nI (T (61 + y) ||| 2 ^ x))) := ⟨_, rfl⟩
  have f4 : ∀ x, x ≠ 282 → x ≠ la + 5 → I4 x = I x := fun x a b => by rw [hI4, rowUp_ne _ _ b, i3 x a]
  obtain ⟨r, un, hr⟩ := unite_ok (σ := σ) (I := I4) (L := L) (F := fst0 T) (a := fst0 T x) (b := fst0 T y) hla (by rw [f4 la (by omega) (by omega)]; exact (show I la 2 = nI (T 2) from hp.2.2.1.2.2.2.1)) a2 (fun k hk' => ⟨by rw [f4 (la + 6) (by omega) (by omega)]; exact (hD.2.2.1 k hk').2.1, fst0_le8 T (by omega)⟩) (fst0_le8 T (by omega)) (fst0_le8 T (by omega))
  have pre : ∀ {α : Type} (K : Hp → Option α), ((gR 2 3 282 (hk σ I3 L)).bind fun v19 => (gR 1 10 v19 (hk σ I3 L)).bind fun v20 => (gR 2 3 282 (hk σ I3 L)).bind fun v21 => (gR 1 10 v21 (hk σ I3 L)).bind fun v22 => (mX11_at v22 (nI x) (hk σ I3 L)).bind fun v23 => (mX11_put v20 (nI x) (v23 ||| ((1 : Int32) <<< (nI y &&& 31))) (hk σ I3 L)).bind fun h26 => (gR 2 3 282 h26).bind fun v27 => (gR 1 10 v27 h26).bind fun v28 => (gR 2 3 282 h26).bind fun v29 => (gR 1 10 v29 h26).bind fun v30 => (mX11_at v30 (nI y) h26).bind fun v31 => (mX11_put v28 (nI y) (v31 ||| ((1 : Int32) <<< (nI x &&& 31))) h26).bind fun h34 => K h34) = K (hk σ I4 L) := fun K => by
    rw [gDr, hg, gR_la hla, obind, RF_la_10 σ hla, gDr, hg, gR_la hla, obind, RF_la_10 σ hla, at_r (SH_la5 hla) (by omega) (by omega), obind, i3 _ (by omega), hD.2.2.2.1 x (by omega), shl1 (by omega), nx_or, put_nI (n := 5) (by rw [hpS_hk]; exact SH_la5 hla) (by omega) (by omega), obind, setI_hk, hpI_hk', gDr, hg, gR_la hla, obind, RF_la_10 σ hla, gDr, hg, gR_la hla, obind, RF_la_10 σ hla, at_r (SH_la5 hla) (by omega) (by omega), obind, rowUp_same, updA_ne _ _ (Ne.symm q), i3 _ (by omega), hD.2.2.2.1 y (by omega), shl1 (by omega), nx_or, put_nI (n := 5) (by rw [hpS_hk]; exact SH_la5 hla) (by omega) (by omega), obind, setI_hk, hpI_hk', rowUp_same, rowUp_two, ← hI4]

  have p4 : PE (rowUp I4 (la + 6) r) X n m la 0 (T 1) (T 2) T (i + 1 + 1 + 1) ((59, 0) :: R') := by
    rw [hI4]
    exact (p3.irow (x := la + 5) _ (by omega) (by omega) (by omega) (by omega) (by omega)).irow (x := la + 6) r (by omega) (by omega) (by omega) (by omega) (by omega)
  obtain ⟨I6, k1, p5, k3⟩ := p4.semi (σ := σ) (L := L) hla
  have e1 : mX2_readSame 282 (hk σ I L) = some (1, hk σ I6 L) := by
    unfold mX2_readSame
    rw [if_pos s282, gPI, obind, hp.1.2.2.2.2.2.1, sI_ok s282, obind, setI_hk, hpI_hk', nI_1, x1, b2s, if_neg (show ¬ (1 : Int32) = 0 by decide), gPI, obind, x4, v1, b2s, if_neg (show ¬ (1 : Int32) = 0 by decide), gPI, obind, v4, c_eqd (by omega) (by omega), if_neg q, gDr, hg, gR_la hla, obind, RF_la_10 σ hla, at_r (SH_la5 hla) (by omega) (by omega), obind, i3 _ (by omega), hD.2.2.2.1 x (by omega), has_nI (by omega) (by omega), obind, qf, if_pos (show bI false = 0 from rfl), pre, gDr, hg, gDr, hg, gR_la hla, obind, RF_la_11 σ hla, at_r (SH_la6 hla) (by omega) (by omega), obind, f4 _ (by omega) (by omega), (hD.2.2.1 x hx).2.1, gDr, hg, gR_la hla, obind, RF_la_11 σ hla, at_r (SH_la6 hla) (by omega) (by omega), obind, f4 _ (by omega) (by omega), (hD.2.2.1 y hy).2.1, un, obind]
    exact k1
  obtain ⟨T', hT⟩ : ∃ T', T' = updA (updA T (61 + x) (T (61 + x) ||| 2 ^ y)) (61 + y) (T (61 + y) ||| 2 ^ x) := ⟨_, rfl⟩
  have q2 := (p5.set (k := 61 + x) (T (61 + x) ||| 2 ^ y) (by omega) (by omega)).set (k := 61 + y) (T (61 + y) ||| 2 ^ x) (by omega) (by omega)
  rw [← hT] at q2
  have tn : ∀ j, j ≠ 61 + x → j ≠ 61 + y → T' j = T j := fun j a b => by rw [hT, updA_ne _ _ b, updA_ne _ _ a]
  have t61 : ∀ k, T' (61 + k) = if k = y then T (61 + y) ||| 2 ^ x else if k = x then T (61 + x) ||| 2 ^ y else T (61 + k) := fun k => by
    rw [hT, updA_at, updA_at]
    by_cases e : k = y
    · rw [if_pos (by omega), if_pos e]
    · rw [if_neg (by omega), if_neg e]
      by_cases e2 : k = x
      · rw [if_pos (by omega), if_pos e2]
      · rw [if_neg (by omega), if_neg e2]
  have px : (2 : Nat) ^ x < 2 ^ T 2 := Nat.pow_lt_pow_right (by omega) (by omega)
  have py : (2 : Nat) ^ y < 2 ^ T 2 := Nat.pow_lt_pow_right (by omega) (by omega)
  have l1 : T (61 + x) ||| 2 ^ y < 2 ^ T 2 := Nat.or_lt_two_pow cx py
  have l2 : T (61 + y) ||| 2 ^ x < 2 ^ T 2 := Nat.or_lt_two_pow cy px
  obtain ⟨nS, g, em⟩ := hS.kp (T' := T') (fun j hj => tn j (by omega) (by omega)) (fun k hk' => ⟨by rw [tn (51 + k) (by omega) (by omega)]; exact (c k hk').2.2.2.2.1, by rw [tn (51 + k) (by omega) (by omega), tn (56 + k) (by omega) (by omega)]; exact (c k hk').2.2.2.2.2.1, by
    rw [t61]
    split
    · exact l2
    · split
      · exact l1
      · exact (c k hk').2.2.2.2.2.2⟩) (fun k h1 h2 => by rw [tn (51 + k) (by omega) (by omega), tn (56 + k) (by omega) (by omega), tn (61 + k) (by omega) (by omega)]; exact d k h1 h2)
  have fx : ∀ x, x ≠ 282 → x ≠ la + 5 → x ≠ la + 6 → I6 x = I x := fun x a b c => by rw [k3 x a, rowUp_ne _ _ c, f4 x a b]
  have f5 : I6 (la + 5) = updA (updA (I (la + 5)) x (nI (T (61 + x) ||| 2 ^ y))) y (nI (T (61 + y) ||| 2 ^ x)) := by rw [k3 _ (by omega), rowUp_ne _ _ (by omega), hI4, rowUp_same]
  have f6 : I6 (la + 6) = r := by rw [k3 _ (by omega), rowUp_same]
  obtain ⟨⟨d0, d3, d4, d5, dm⟩, dO, dk, ds, dp', dq, ⟨dj, d2⟩, dst⟩ := hD
  refine ⟨I6, L, T', lim, e1, ⟨by rw [tn 1 (by omega) (by omega), tn 2 (by omega) (by omega)]; exact q2, nS, ⟨⟨?_, ?_, ?_, ?_, ?_⟩, fun f hf => ?_, fun k2 hk2 => ?_, fun k2 hk2 => ?_, fun p hp => ?_, fun q hq => ?_, ⟨fun j h1 h2 => ?_, ?_⟩, fun k2 hk2 => ?_⟩, hO⟩, ⟨by rw [tn 1 (by omega) (by omega)]; exact hv.1, by rw [tn 2 (by omega) (by omega)]; exact hv.2.1, by rw [tn 3 (by omega) (by omega)]; exact hv.2.2.1, by rw [tn 4 (by omega) (by omega)]; exact hv.2.2.2.1, hv.2.2.2.2.1, fun k2 hk2 => by rw [tn (51 + k2) (by omega) (by omega)]; exact hv.2.2.2.2.2.1 k2 hk2, fun k2 hk2 => by
      show T' (61 + k2) = updA (updA v.2.2.2.2.2.2.1 x (v.2.2.2.2.2.2.1 x ||| 2 ^ y)) y (v.2.2.2.2.2.2.1 y ||| 2 ^ x) k2
      rw [t61, updA_at, updA_at]
      by_cases e : k2 = y
      · rw [if_pos e, if_pos e, hv.2.2.2.2.2.2.1 y (by omega)]
      · rw [if_neg e, if_neg e]
        by_cases e2 : k2 = x
        · rw [if_pos e2, if_pos e2, hv.2.2.2.2.2.2.1 x (by omega)]
        · rw [if_neg e2, if_neg e2]; exact hv.2.2.2.2.2.2.1 k2 hk2, fun w => by rw [em]; exact hv.2.2.2.2.2.2.2 w⟩, tn 0 (by omega) (by omega), ⟨fun x a b c d => fx x a (by omega) (by omega), fun _ _ _ _ => rfl⟩⟩
  · rw [fx la (by omega) (by omega) (by omega), tn 0 (by omega) (by omega)]; exact d0
  · rw [fx la (by omega) (by omega) (by omega), tn 3 (by omega) (by omega)]; exact d3
  · rw [fx la (by omega) (by omega) (by omega), tn 4 (by omega) (by omega)]; exact d4
  · rw [fx la (by omega) (by omega) (by omega)]; exact d5
  · rw [em]; exact dm
  · rw [tn 1 (by omega) (by omega)] at hf
    rw [fx _ (by omega) (by omega) (by omega), tn (8 + f) (by omega) (by omega)]; exact dO f hf
  · rw [tn 2 (by omega) (by omega)] at hk2
    have c3 := (c k2 hk2).2.2.1
    rw [fx (la + 3) (by omega) (by omega) (by omega), f6, hr k2 hk2, fx (la + 8) (by omega) (by omega) (by omega), fx (la + 9) (by omega) (by omega) (by omega), tn (26 + k2) (by omega) (by omega), fst0_un hx hy a2 q (tn 2 (by omega) (by omega)) (fun k _ => t61 k) (k := k2) (by omega)]
    refine ⟨(dk k2 hk2).1, rfl, fun i hi' => ?_⟩
    rw [tn (31 + 4 * k2 + i) (by omega) (by omega), tn _ (by omega) (by omega), tn _ (by omega) (by omega)]
    exact (dk k2 hk2).2.2 i hi'
  · rw [f5, t61, updA_at, updA_at, ds k2 hk2]
    split
    · rfl
    · split
      · rfl
      · rfl
  · rw [tn 4 (by omega) (by omega)] at hp
    rw [fx (la + 4) (by omega) (by omega) (by omega), fx (la + 8) (by omega) (by omega) (by omega), fx (la + 9) (by omega) (by omega) (by omega), tn (66 + p) (by omega) (by omega), tn (72 + p) (by omega) (by omega), tn (84 + _) (by omega) (by omega), tn (117 + _) (by omega) (by omega)]
    exact dp' p hp
  · exact g.slc (dq q hq) (by rw [fx (la + 8) (by omega) (by omega) (by omega)]) (by rw [fx (la + 9) (by omega) (by omega) (by omega)])
  · rw [fx s (by omega) (by omega) (by omega)]; exact dj j h1 h2
  · rw [fx s (by omega) (by omega) (by omega), tn 2 (by omega) (by omega)]; exact d2
  · rw [tn 2 (by omega) (by omega)] at hk2
    rw [fx (s + 1) (by omega) (by omega) (by omega), fx (s + 2) (by omega) (by omega) (by omega), fx (s + 3) (by omega) (by omega) (by omega), fx (s + 4) (by omega) (by omega) (by omega), fx (s + 5) (by omega) (by omega) (by omega), fx (s + 6) (by omega) (by omega) (by omega), tn (16 + k2) (by omega) (by omega), tn (21 + k2) (by omega) (by omega), tn (51 + k2) (by omega) (by omega), tn (56 + k2) (by omega) (by omega)]
    exact dst k2 hk2

end H3b
