section Says
variable {σ τ : Sg} {I I' J J' I1 I2 I3 Ja : Nat → Nat → Int32} {L L' M M' L1 L2 : Nat → Nat → Int64} {X : Nat → Nat} {n m i i2 la off t1 t2 fl pl dp h0 N kk lim s : Nat} {W : Nat → List Nat} {T T' : Nat → Nat}
theorem gDs {ρ : Type} (f : Nat → Option ρ) : (gR 2 4 282 (hk σ I L)).bind f = f (gps σ) := rfl
theorem LQ.pre {cls : Option (Int32 × Hp)} {mdl : Option Hp} (h : LQ σ τ I2 J' L' M' X n m i2 la s T cls mdl) (hi : i ≤ i2) (f : FS la s I L I2 L') (g : MFr J M J' M') : LQ σ τ I J L M X n m i la s T cls mdl := by
  rcases h with ⟨a1, a2, a3, a4, a5, a6, a7, a8, e1, e2, e3, e4, e5, e6, e7⟩ | ⟨a1, a2, a3, a4, a5, a6, e1, e2, e3, e4, e5, e6⟩
  · exact Or.inl ⟨a1, a2, a3, a4, a5, a6, a7, a8, e1, e2, e3, e4, by omega, f.tr e6, g.tr e7⟩
  · exact Or.inr ⟨a1, a2, a3, a4, a5, a6, e1, e2, e3, e4, f.tr e5, g.tr e6⟩
theorem CF2.fs (f : CF2 I I') : FS la s I L I' L := ⟨fun x a _ _ _ => f x a, fun _ _ _ _ => rfl⟩
theorem SD.cf (h : SD I L la s T lim) (hla : isLa la) (hs : s = 268 ∨ s = 275) (f : CF2 I I') : SD I' L la s T lim := by
  have hla' : la = 112 ∨ la = 190 := hla
  obtain ⟨⟨d0, d3, d4, d5, dm⟩, dO, dk, ds, dp', dq, ⟨dj, d2⟩, dst⟩ := h
  have f1 : ∀ x, x ≠ 282 → I' x = I x := f
  unfold SD sl
  simp (disch := omega) only [f1]
  exact ⟨⟨d0, d3, d4, d5, dm⟩, dO, dk, ds, dp', dq, ⟨dj, d2⟩, dst⟩
theorem or_sub {S So f : Nat} (h : So &&& S = So) : (So ||| 2 ^ f) &&& (S ||| 2 ^ f) = So ||| 2 ^ f ∧ So &&& (S ||| 2 ^ f) = So := by
  have hb : ∀ i, (So.testBit i && S.testBit i) = So.testBit i := fun i => by rw [← Nat.testBit_and, h]
  constructor
  · apply Nat.eq_of_testBit_eq
    intro i
    have := hb i
    rw [Nat.testBit_and, Nat.testBit_or, Nat.testBit_or]
    cases h1 : So.testBit i <;> cases h2 : S.testBit i <;> cases h3 : (2 ^ f).testBit i <;> simp_all
  · apply Nat.eq_of_testBit_eq
    intro i
    have := hb i
    rw [Nat.testBit_and, Nat.testBit_or]
    cases h1 : So.testBit i <;> cases h2 : S.testBit i <;> cases h3 : (2 ^ f).testBit i <;> simp_all
/-- the rest of a line that says a FACT -/
theorem says_ok {k so : Nat} (hla : isLa la) (hg : gpl σ = la) (hgs : gps σ = s) (hs : s = 268 ∨ s = 275) (h : SV I J L M X n m i la s W T lim) (hk' : k < T 2) (hso : so < 2) : LQ σ τ I J L M X n m i la s T (mX2_readSays_b53 282 (nI k) (nI so) (hk σ I L)) (mX12_readSays_b33 433 (nI k) (nI so) (hk τ J M)) := by
  have hla' : la = 112 ∨ la = 190 := hla
  have hst : isSt s := by unfold isSt; omega
  obtain ⟨⟨dp, hp⟩, hS, hD, h22, hO, hW⟩ := h
  obtain ⟨⟨a1, a2, a3, a4, a5, a6, a7⟩, b, c, d, ee, ff, gq, hh, w0, w01, w02⟩ := id hS
  obtain ⟨c1, c2, c3, c4, c5, c6, c7⟩ := c k hk'
  have p256 := ev_lt a1
  have co : T (56 + k) ≤ T (51 + k) := by rw [← c6]; exact Nat.and_le_right
  unfold mX2_readSays_b53 mX12_readSays_b33
  rcases fact_ok (σ := σ) (τ := τ) (L := L) hp.1 hp.2.1 (by rw [hg]; exact hla) (by rw [hg]; exact hp.2.2.1) hp.2.2.2.1 with ⟨f, hf, hc2, ⟨I2, x1, x2, x3, x4⟩, b0⟩ | ⟨fl, ⟨I2, x1, x2, x3⟩, J2, b1, b2', b3⟩
  · have hD2 := hD.cf hla hs x3
    have s5 := (hD2.2.2.2.2.2.2.2 k hk').2.2.2.2.1
    have s6 := (hD2.2.2.2.2.2.2.2 k hk').2.2.2.2.2
    rw [x1, b2s, if_neg (show ¬ (1 : Int32) = 0 by decide), gDs, hgs, gR_st hst, obind, RF_st_13 σ hst, at_r (SH_st5 hst) (by omega) (by omega), obind, s5, gPI, obind, x4, has_nI (by omega) (by omega), obind, b0, b2s, gM 1, RF_433_1, show (51 : Int32) = nI 51 from rfl, nI_add, ld435 hp.2.2.2.2.1 (by omega), obind, mhas_nI (by omega) (by omega), obind, bI_if0, bI_if0]
    by_cases q : (T (51 + k)).testBit f = true
    · rw [q, if_neg nTF, if_neg nTF, gPI, obind, x2.2.2.2.2.2.1, sI_ok s282, obind, setI_hk, hpI_hk']
      have pb : PCk (rowUp I2 282 (updA (I2 282) 5 (nI i))) X n m i := x2.up (updA_same _ _ _) hp.1.2.2.2.2.2.2
      obtain ⟨I3, e3, c3', d3⟩ := fail_b2 (σ := σ) (L := L) pb (f := 3) (by omega) (by omega)
      obtain ⟨u, w1', w2', w3⟩ := wrong_ok (σ := τ) hp.2.1 (f := 3) (by omega) (by omega)
      have w1' : mX12_wrong 433 (3 : Int32) (hk τ J M) = some (hk τ (rowUp J 433 u) M) := w1'
      rw [if_neg (by omega)] at w2'
      have e1i : nI (i + 1) - 1 = nI i := by rw [show (1 : Int32) = nI 1 from rfl, nI_sub (by omega), Nat.add_sub_cancel]
      have e3 : (b2 (mX2_fail 282 (3 : Int32) (hk σ (rowUp I2 282 (updA (I2 282) 5 (nI i))) L)) fun v25 h26 => (z01 v25).bind fun v => some (v, h26)) = some (0, hk σ I3 L) := e3
      rw [e1i, e3, w1', obind, saysRest_bad w2']
      exact Or.inr ⟨3, _, I3, _, L, M, rfl, rfl, c3', w2', (x3.tr (CF2.up.tr d3)).fs, w3.1⟩
    · have qf : (T (51 + k)).testBit f = false := by simpa using q
      have qo : (T (56 + k)).testBit f = false := by rw [← c6, Nat.testBit_and, qf, Bool.and_false]
      rw [qf, if_pos rfl, if_pos rfl, gDs, hgs, obind]
      have cl : (if nI so = 0 then mX2_readSays_b117 282 s (nI k) (nI f) (0 : Int32) (hk σ I2 L) else mX2_readSays_b117 282 s (nI k) (nI f) (1 : Int32) (hk σ I2 L)) = mX2_readSays_b117 282 s (nI k) (nI f) (nI so) (hk σ I2 L) := by
        rcases (show so = 0 ∨ so = 1 by omega) with rfl | rfl <;> rfl
      obtain ⟨u, w, e1, y2, y3⟩ := PMk.ps (σ := τ) hp.2.1
      have p1 := hp.go hla x2 x3 y2 y3
      have p2 := (p1.irow (x := s + 5) (updA (I2 (s + 5)) k (nI (tlS (T (51 + k)) f so))) (by omega) (by omega) (by omega) (by omega) (by omega)).irow (x := s + 6) (updA (I2 (s + 6)) k (nI (tlO (T (56 + k)) f so))) (by omega) (by omega) (by omega) (by omega) (by omega)
      obtain ⟨I3, hI3⟩ : ∃ I3, I3 = rowUp (rowUp I2 (s + 5) (updA (I2 (s + 5)) k (nI (tlS (T (51 + k)) f so)))) (s + 6) (updA (I2 (s + 6)) k (nI (tlO (T (56 + k)) f so))) := ⟨_, rfl⟩
      rw [← hI3] at p2
      rw [cl]
      unfold mX2_readSays_b117 mX12_readSays_b60
      rw [tell_ok (σ := σ) (L := L) hst (by omega) (by omega) (by omega) s5 s6 (by omega) (by omega), obind, ← hI3, e1, obind, show (59 : Int32) = nI 59 from rfl, isSign_ok p2.2.1.2.1 p2.2.1.2.2 (by decide), obind]
      have fx : ∀ x, x ≠ 282 → x ≠ s + 5 → x ≠ s + 6 → I3 x = I x := fun x a b c => by rw [hI3, rowUp_ne _ _ c, rowUp_ne _ _ b, x3 x a]
      rcases exp_ok (σ := σ) (τ := τ) (L := L) p2.1 p2.2.1 (c := 59) (by omega) (by omega) with ⟨_, ⟨I4, v1, v2, v3, v4⟩, J4, M4, z1, z2, z3⟩ | ⟨_, fl, pl, ⟨I4, v1, v2, v3⟩, J4, M4, z1, z2, z3⟩
      · have p3 := p2.go hla v2 v3 z2 z3
        obtain ⟨So', hSo⟩ : ∃ So', So' = if so = 1 then T (56 + k) ||| 2 ^ f else T (56 + k) := ⟨_, rfl⟩
        obtain ⟨T', hT⟩ : ∃ T', T' = updA (updA T (51 + k) (T (51 + k) ||| 2 ^ f)) (56 + k) So' := ⟨_, rfl⟩
        have q1 := p3.set (k := 51 + k) (T (51 + k) ||| 2 ^ f) (by omega) (by omega) (by omega) (by omega)
        have q2 := q1.set (k := 56 + k) So' (by omega) (by omega) (by omega) (by omega)
        rw [← hT] at q2
        have eS : T' (51 + k) = T (51 + k) ||| 2 ^ f := by rw [hT, updA_ne _ _ (by omega), updA_same]
        have eO : T' (56 + k) = So' := by rw [hT, updA_same]
        have tn : ∀ j, j ≠ 51 + k → j ≠ 56 + k → T' j = T j := fun j a b => by rw [hT, updA_ne _ _ b, updA_ne _ _ a]
        have g : GR T T' := ⟨by rw [tn 7 (by omega) (by omega)]; exact Nat.le_refl _, fun j h1 h2 => tn j (by omega) (by omega), fun e he => ⟨tn _ (by omega) (by omega), tn _ (by omega) (by omega)⟩⟩
        have em : may T' = may T := g.mayc hS (tn 3 (by omega) (by omega)) (fun k' _ => tn _ (by omega) (by omega))
        have ef : fst0 T' = fst0 T := fst0_cg (tn 2 (by omega) (by omega)) (fun k' _ => tn _ (by omega) (by omega))
        have lS : tlS (T (51 + k)) f so = T (51 + k) ||| 2 ^ f := by unfold tlS; rw [if_pos hso]
        have lO : tlO (T (56 + k)) f so = So' := by
          unfold tlO
          rw [hSo]
          by_cases e : so = 1
          · rw [if_pos e, if_pos e]
          · rw [if_neg e, if_neg e, rmv_no qo]
        have pf : (2 : Nat) ^ f < 2 ^ T 1 := Nat.pow_lt_pow_right (by omega) hf
        have sub : So' &&& (T (51 + k) ||| 2 ^ f) = So' := by
          rw [hSo]
          split
          · exact (or_sub c6).1
          · exact (or_sub c6).2
        have i4 : ∀ x, x ≠ 282 → x ≠ s + 5 → x ≠ s + 6 → I4 x = I x := fun x a b c => by rw [v3 x a, fx x a b c]
        have i45 : I4 (s + 5) = updA (I (s + 5)) k (nI (T (51 + k) ||| 2 ^ f)) := by rw [v3 _ (by omega), hI3, rowUp_ne _ _ (by omega), rowUp_same, x3 _ (by omega), lS]
        have i46 : I4 (s + 6) = updA (I (s + 6)) k (nI So') := by rw [v3 _ (by omega), hI3, rowUp_same, x3 _ (by omega), lO]
        obtain ⟨⟨d0, d3, d4, d5, dm⟩, dO, dk, ds, dp', dq, ⟨dj, d2⟩, dst⟩ := hD
        refine Or.inl ⟨I4, _, L, M4, i + 1 + 1, W, T', lim, by rw [v1, b2s]; rfl, ?_, ⟨⟨dp, by rw [tn 1 (by omega) (by omega), tn 2 (by omega) (by omega)]; exact q2⟩, ⟨⟨?_, ?_, ?_, ?_, a5, ?_, ?_⟩, fun f hf => ?_, fun k2 hk2 => ?_, fun k2 h1 h2 => ?_, fun p hp => ?_, fun k2 hk2 => ?_, fun e he => ?_, fun s hs' => ?_, w0, ?_, ?_⟩, ⟨⟨?_, ?_, ?_, ?_, ?_⟩, fun f hf => ?_, fun k2 hk2 => ?_, fun k2 hk2 => ?_, fun p hp => ?_, fun q hq => ?_, ⟨fun j h1 h2 => ?_, ?_⟩, fun k2 hk2 => ?_⟩, ?_, hO, hW⟩, tn 0 (by omega) (by omega), by omega, ⟨fun x a b c d => i4 x a (by omega) (by omega), fun _ _ _ _ => rfl⟩, (y3.1.tr z3.1).tr ((MX.u435 _).1.tr (MX.u435 _).1)⟩
        · rw [z1, obind, gMI, obind, if_pos p3.2.1.2.2, gM 1, RF_433_1, show (51 : Int32) = nI 51 from rfl, nI_add, ld435 p3.2.2.2.2.1 (by omega), obind, shl1 (by omega), nx_or, st435 _ (by omega), obind, gM 1, RF_433_1, show (56 : Int32) = nI 56 from rfl, nI_add, ld435 q1.2.2.2.2.1 (by omega), obind, updA_ne _ _ (by omega), hSo]
          unfold mX12_readSays_b117
          rcases (show so = 0 ∨ so = 1 by omega) with e | e
          · rw [e, if_pos (show nI 0 = (0 : Int32) from rfl), nx_or0, st435 _ (by omega), obind, if_neg (by omega)]
          · rw [e, if_neg (show ¬ nI 1 = (0 : Int32) by decide), nx_or, st435 _ (by omega), obind, if_pos rfl]
        · rw [tn 1 (by omega) (by omega)]; exact a1
        · rw [tn 2 (by omega) (by omega)]; exact a2
        · rw [tn 3 (by omega) (by omega)]; exact a3
        · rw [tn 4 (by omega) (by omega)]; exact a4
        · rw [tn 5 (by omega) (by omega)]; exact a6
        · rw [tn 6 (by omega) (by omega), tn 3 (by omega) (by omega), tn 4 (by omega) (by omega), tn 2 (by omega) (by omega), ndT_cg (fun k2 h2 => tn _ (by omega) (by omega))]; exact a7
        · rw [tn 1 (by omega) (by omega)] at hf
          rw [tn (8 + f) (by omega) (by omega)]; exact b f hf
        · rw [tn 2 (by omega) (by omega)] at hk2
          obtain ⟨c1, c2, c3, c4, c5', c6', c7⟩ := c k2 hk2
          refine ⟨?_, ?_, ?_, fun i hi' => ?_, ?_, ?_, ?_⟩
          · rw [tn (16 + k2) (by omega) (by omega)]; exact c1
          · rw [tn (21 + k2) (by omega) (by omega)]; exact c2
          · rw [tn (26 + k2) (by omega) (by omega)]; exact c3
          · rw [tn (26 + k2) (by omega) (by omega)] at hi'
            rw [tn (31 + 4 * k2 + i) (by omega) (by omega), tn 6 (by omega) (by omega)]
            exact c4 i hi'
          · rw [tn 1 (by omega) (by omega)]
            by_cases e : k2 = k
            · rw [e, eS]; exact Nat.or_lt_two_pow c5 pf
            · rw [tn (51 + k2) (by omega) (by omega)]; exact c5'
          · by_cases e : k2 = k
            · rw [e, eS, eO]; exact sub
            · rw [tn (51 + k2) (by omega) (by omega), tn (56 + k2) (by omega) (by omega)]; exact c6'
          · rw [tn (61 + k2) (by omega) (by omega), tn 2 (by omega) (by omega)]; exact c7
        · rw [tn 2 (by omega) (by omega)] at h1
          rw [tn (51 + k2) (by omega) (by omega), tn (56 + k2) (by omega) (by omega), tn (61 + k2) (by omega) (by omega)]
          exact d k2 h1 h2
        · rw [tn 4 (by omega) (by omega)] at hp
          rw [tn (66 + p) (by omega) (by omega), tn (72 + p) (by omega) (by omega), tn 2 (by omega) (by omega), tn 6 (by omega) (by omega)]
          exact ee p hp
        · rw [tn 3 (by omega) (by omega)] at hk2
          rw [tn (78 + k2) (by omega) (by omega), tn 6 (by omega) (by omega)]
          exact ff k2 hk2
        · rw [tn 6 (by omega) (by omega)] at he
          rw [(g.2.2 e he).1, (g.2.2 e he).2, tn 7 (by omega) (by omega)]
          exact ⟨g.wfc (hS.ew he).2 (hS.ew he).1, (hS.ew he).2⟩
        · rw [tn 7 (by omega) (by omega)] at hs'
          rw [g.ct hs', tn 1 (by omega) (by omega)]
          exact hh s hs'
        · rw [tn 1 (by omega) (by omega)]; exact w01
        · rw [em]; exact w02
        · rw [i4 la (by omega) (by omega) (by omega), tn 0 (by omega) (by omega)]; exact d0
        · rw [i4 la (by omega) (by omega) (by omega), tn 3 (by omega) (by omega)]; exact d3
        · rw [i4 la (by omega) (by omega) (by omega), tn 4 (by omega) (by omega)]; exact d4
        · rw [i4 la (by omega) (by omega) (by omega)]; exact d5
        · rw [em]; exact dm
        · rw [tn 1 (by omega) (by omega)] at hf
          rw [i4 _ (by omega) (by omega) (by omega), tn (8 + f) (by omega) (by omega)]; exact dO f hf
        · rw [tn 2 (by omega) (by omega)] at hk2
          have c3 := (c k2 hk2).2.2.1
          rw [i4 (la + 3) (by omega) (by omega) (by omega), i4 (la + 6) (by omega) (by omega) (by omega), i4 (la + 8) (by omega) (by omega) (by omega), i4 (la + 9) (by omega) (by omega) (by omega), tn (26 + k2) (by omega) (by omega), ef]
          refine ⟨(dk k2 hk2).1, (dk k2 hk2).2.1, fun i hi' => ?_⟩
          rw [tn (31 + 4 * k2 + i) (by omega) (by omega), tn _ (by omega) (by omega), tn _ (by omega) (by omega)]
          exact (dk k2 hk2).2.2 i hi'
        · rw [i4 _ (by omega) (by omega) (by omega), tn (61 + k2) (by omega) (by omega)]; exact ds k2 hk2
        · rw [tn 4 (by omega) (by omega)] at hp
          rw [i4 (la + 4) (by omega) (by omega) (by omega), i4 (la + 8) (by omega) (by omega) (by omega), i4 (la + 9) (by omega) (by omega) (by omega), tn (66 + p) (by omega) (by omega), tn (72 + p) (by omega) (by omega), tn (84 + _) (by omega) (by omega), tn (117 + _) (by omega) (by omega)]
          exact dp' p hp
        · exact g.slc (dq q hq) (by rw [i4 (la + 8) (by omega) (by omega) (by omega)]) (by rw [i4 (la + 9) (by omega) (by omega) (by omega)])
        · rw [i4 s (by omega) (by omega) (by omega)]; exact dj j h1 h2
        · rw [i4 s (by omega) (by omega) (by omega), tn 2 (by omega) (by omega)]; exact d2
        · rw [tn 2 (by omega) (by omega)] at hk2
          obtain ⟨g1, g2, g3, g4, g5, g6⟩ := dst k2 hk2
          rw [i4 (s + 1) (by omega) (by omega) (by omega), i4 (s + 2) (by omega) (by omega) (by omega), i4 (s + 3) (by omega) (by omega) (by omega), i4 (s + 4) (by omega) (by omega) (by omega), i45, i46, tn (16 + k2) (by omega) (by omega), tn (21 + k2) (by omega) (by omega)]
          refine ⟨g1, g2, g3, g4, ?_, ?_⟩
          · by_cases e : k2 = k
            · rw [e, eS, updA_same]
            · rw [tn (51 + k2) (by omega) (by omega), updA_ne _ _ e]; exact g5
          · by_cases e : k2 = k
            · rw [e, eO, updA_same]
            · rw [tn (56 + k2) (by omega) (by omega), updA_ne _ _ e]; exact g6
        · rw [rowUp_ne _ _ (by omega), rowUp_ne _ _ (by omega), z3.2.2.2.2, y3.2.2.2.2, h22]
      · refine Or.inr ⟨fl, pl, I4, J4, L, M4, by rw [v1, b2s]; rfl, ?_, v2, z2, ⟨fun x a b c d => by rw [v3 x a, fx x a (by omega) (by omega)], fun _ _ _ _ => rfl⟩, y3.1.tr z3.1⟩
        rw [z1, obind, gMI, obind, if_neg z2.ne]
  · rw [x1, b2s, if_pos rfl]
    have e := says33_bad (τ := τ) (M := M) b2' (hp.2.2.2.2.1.mf b3) (by rw [b3.2.1]; exact hp.2.2.2.1.2.2.1) a1 (by rw [b3.2.1]; exact hp.2.2.2.1.2.2.2.1 hW) a2 (k := k) (by omega) (by omega) (nI so)
    unfold mX12_readSays_b33 at e
    rw [here_bad b2' (by rw [b3.2.1]; exact hp.2.2.2.1.2.2.1) a1 (by rw [b3.2.1]; exact hp.2.2.2.1.2.2.2.1 hW) a2, b2s] at e
    rw [b1, b2s, e]
    exact Or.inr ⟨fl, _, I2, J2, L, M, rfl, rfl, x2, b2', x3.fs, b3.1⟩
end Says
