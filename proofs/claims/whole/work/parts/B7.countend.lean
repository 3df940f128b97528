section CountEnd
variable {σ τ : Sg} {I I' J J' I1 I2 I3 Ja : Nat → Nat → Int32} {L L' M M' L1 L2 : Nat → Nat → Int64} {X : Nat → Nat} {n m i i2 la off t1 t2 fl pl dp h0 N kk lim s k b j w r : Nat} {W : Nat → List Nat} {T T' : Nat → Nat}
theorem fst0_new {U : Nat → Nat} {k : Nat} (h2 : U 2 = k) (hk : k ≤ 4) (h2' : T' 2 = k + 1) (h : ∀ x, x ≤ k → T' (61 + x) = U (61 + x)) (hz : U (61 + k) = 0) (hb : ∀ x, x < k → U (61 + x) < 2 ^ k) : fst0 T' = fst0 U ∧ fst0 U k = k := by
  have e0 : ∀ i, (U (61 + k)).testBit i = false := fun i => by rw [hz]; exact Nat.zero_testBit i
  have ek : ∀ x, x ≤ k → (U (61 + x)).testBit k = false := fun x hx => by
    by_cases q : x = k
    · rw [q]; exact e0 k
    · exact Nat.testBit_lt_two_pow (hb x (by omega))
  have hm : smB T' = smB U := by
    funext x y
    unfold smB
    rw [h2, h2']
    by_cases hx : x ≤ k
    · by_cases hy : y ≤ k
      · rw [h x hx, h y hy, decide_eq_true (show x < k + 1 by omega), decide_eq_true (show y < k + 1 by omega)]
        by_cases qx : x = k
        · rw [qx, e0 y, ek y hy]; simp
        · by_cases qy : y = k
          · rw [qy, e0 x, ek x hx]; simp
          · rw [decide_eq_true (show x < k by omega), decide_eq_true (show y < k by omega)]
      · rw [decide_eq_false (show ¬ y < k + 1 by omega), decide_eq_false (show ¬ y < k by omega)]; simp
    · rw [decide_eq_false (show ¬ x < k + 1 by omega), decide_eq_false (show ¬ x < k by omega)]; simp
  refine ⟨by unfold fst0; rw [hm], ?_⟩
  obtain ⟨g1, g2, g3⟩ := fz_spec (R := smB U) (k := k) (by omega)
  have := rea_F (R := smB U) (F := fun x => if x = k then 1 else 0) (fun a c ha hc hr => by
    unfold smB at hr
    rw [h2] at hr
    have ha' : a < k := by
      by_cases q : a < k
      · exact q
      · rw [decide_eq_false q] at hr; simp at hr
    have hc' : c < k := by
      by_cases q : c < k
      · exact q
      · rw [decide_eq_false q] at hr; simp at hr
    show (if a = k then 1 else 0) = if c = k then 1 else 0
    rw [if_neg (by omega), if_neg (by omega)]) 8 k (fz (smB U) k) (by omega) g2
  by_cases q : fz (smB U) k = k
  · exact q
  · rw [if_pos rfl, if_neg q] at this; cases this
/-- the end of a COUNT line -/
theorem cend_ok {l : List Nat} (hla : isLa la) (hg : gpl σ = la) (hgs : gps σ = s) (hs : s = 268 ∨ s = 275) (h : CI I J L M X n m i la s W T lim k b j) (hl : wrd l) (hM : M 437 (8 + k) = lN (pk27 l)) (hw : w ≤ 999) (hr : r ≤ 999) (hj : 0 < j) (hc : ck X n (pz X n i) ≠ 261) :
    LQ σ τ I J L M X n m i la s T (mX2_readCount_l103 282 (nI (pk5 l)) (nI w) (nI r) (nI j) (nI j) (hk σ I L)) (mX12_readCount_l76 433 (nI k) (nI w) (nI r) (nI j) (hk τ J M)) := by
  have hla' : la = 112 ∨ la = 190 := hla
  have hst : isSt s := by unfold isSt; omega
  obtain ⟨hb, h7, h7i⟩ := need_room h
  obtain ⟨⟨dp, hp⟩, ⟨h2, h4, h6, hj4⟩, hS, hD, hx, h22, hO, hW⟩ := h
  have hlt := ck_lt X n (pz X n i)
  have iw : mX12_isWord 433 17 (hk τ J M) = some (bI false) := by
    have := isWord_ok (σ := τ) (w := 5) hp.2.1.2.1 hp.2.1.2.2 (by omega)
    rw [decide_eq_false (show ¬ ck X n (pz X n i) = 256 + 5 from hc)] at this
    exact this
  have cls : ∀ {o : Option (Int32 × Hp)} {v}, o = some v → mX2_readCount_b164 282 (nI (pk5 l)) (nI w) (nI r) (nI j) (hk σ I L) = o → mX2_readCount_l103 282 (nI (pk5 l)) (nI w) (nI r) (nI j) (nI j) (hk σ I L) = some v := fun {o v} ho h => by
    unfold mX2_readCount_l103
    refine lp_inr ?_
    show mX2_readCount_l103f 282 (nI (pk5 l)) (nI w) (nI r) (nI j) (nI j) (hk σ I L) = _
    unfold mX2_readCount_l103f
    rw [h, ho, xts]
    by_cases q : j < 4
    · rw [if_pos (show nI j < (4 : Int32) from nI_lt (b := 4) q (by omega)), if_neg (show ¬ nI j = (0 : Int32) from fun z => by have := (nI_eq (a := j) (b := 0) (by omega) (by omega)).mp z; omega), nextKind_ok hp.1, obind, show (261 : Int32) = nI 261 from rfl, ckd (by omega), if_neg hc]
    · rw [if_neg (show ¬ nI j < (4 : Int32) from nI_nlt (b := 4) (by omega) (by omega))]
  obtain ⟨c8, c5, c1, c2, cf, cn⟩ := id hp.2.2.1
  obtain ⟨m8, m5, m1, m2, mf, mn⟩ := id hp.2.2.2.1
  have c2 := c2 hW
  have cn := cn hW
  have m2 := m2 hW
  have mn := mn hW
  have U6 : updA T 6 b 6 = b := updA_same _ _ _
  have Un : ∀ x, x ≠ 6 → updA T 6 b x = T x := fun x hx => updA_ne _ _ hx
  have Uc : cT (updA T 6 b) = cT T := by funext x; exact Un _ (by omega)
  obtain ⟨Ic, hIc⟩ : ∃ Ic, Ic = rowUp (rowUp (rowUp I (la + 2) (updA (I (la + 2)) (8 + k) (nI (pk5 l)))) (la + 3) (updA (I (la + 3)) k (nI j))) (la + 6) (updA (I (la + 6)) k (nI k)) := ⟨_, rfl⟩
  have ic : ∀ x, x ≠ la + 2 → x ≠ la + 3 → x ≠ la + 6 → Ic x = I x := fun x a b c => by rw [hIc, rowUp_ne _ _ c, rowUp_ne _ _ b, rowUp_ne _ _ a]
  have ic2 : Ic (la + 2) = updA (I (la + 2)) (8 + k) (nI (pk5 l)) := by rw [hIc, rowUp_ne _ _ (by omega), rowUp_ne _ _ (by omega), rowUp_same]
  have ic3 : Ic (la + 3) = updA (I (la + 3)) k (nI j) := by rw [hIc, rowUp_ne _ _ (by omega), rowUp_same]
  have ic6 : Ic (la + 6) = updA (I (la + 6)) k (nI k) := by rw [hIc, rowUp_same]
  have D7 := hD.2.2.2.2.2.2.1
  obtain ⟨Id, fe, q0, q1, q2, q3, q4, q5, q6, qo⟩ := file_ok (σ := σ) (I := Ic) (L := L) (k := k) (dy := 0) (nI k) (nI w) (nI r) hst (by omega) (by rw [ic s (by omega) (by omega) (by omega), D7.2, Un 2 (by omega), h2]) (by rw [ic s (by omega) (by omega) (by omega)]; exact D7.1 0 (by omega) (by omega))
  obtain ⟨Ie, hIe⟩ : ∃ Ie, Ie = rowUp Id la (updA (Id la) 2 (nI (k + 1))) := ⟨_, rfl⟩
  have ix : ∀ x, x ≠ la → x ≠ la + 2 → x ≠ la + 3 → x ≠ la + 6 → (x < s ∨ s + 7 ≤ x) → Ie x = I x := fun x a b c d e => by rw [hIe, rowUp_ne _ _ a, qo x e, ic x b c d]
  have ie0 : Ie la = updA (I la) 2 (nI (k + 1)) := by rw [hIe, rowUp_same, qo la (by omega), ic la (by omega) (by omega) (by omega)]
  have ie2 : Ie (la + 2) = updA (I (la + 2)) (8 + k) (nI (pk5 l)) := by rw [hIe, rowUp_ne _ _ (by omega), qo _ (by omega), ic2]
  have ie3 : Ie (la + 3) = updA (I (la + 3)) k (nI j) := by rw [hIe, rowUp_ne _ _ (by omega), qo _ (by omega), ic3]
  have ie6 : Ie (la + 6) = updA (I (la + 6)) k (nI k) := by rw [hIe, rowUp_ne _ _ (by omega), qo _ (by omega), ic6]
  have ies : ∀ x, s ≤ x → x < s + 7 → Ie x = Id x := fun x a b => by rw [hIe, rowUp_ne _ _ (by omega)]
  have pc : PCk Ie X n m i := ⟨⟨hp.1.1.1, by rw [ix 282 (by omega) (by omega) (by omega) (by omega) (by omega)]; exact hp.1.1.2⟩, hp.1.2.1, ⟨by rw [ix 103 (by omega) (by omega) (by omega) (by omega) (by omega)]; exact hp.1.2.2.1.1, fun x hx => by rw [ix 104 (by omega) (by omega) (by omega) (by omega) (by omega), ix 105 (by omega) (by omega) (by omega) (by omega) (by omega), ix 106 (by omega) (by omega) (by omega) (by omega) (by omega)]; exact hp.1.2.2.1.2 x hx⟩, hp.1.2.2.2.1, hp.1.2.2.2.2.1, by rw [ix 282 (by omega) (by omega) (by omega) (by omega) (by omega)]; exact hp.1.2.2.2.2.2.1, hp.1.2.2.2.2.2.2⟩
  have b164 : mX2_readCount_b164 282 (nI (pk5 l)) (nI w) (nI r) (nI j) (hk σ I L) = b2 (mX2_expect 282 (59 : Int32) (hk σ Ie L)) fun v48 h49 => (z01 v48).bind fun v => some (v, h49) := by
    unfold mX2_readCount_b164
    rw [nextKind_ok hp.1, obind, show (261 : Int32) = nI 261 from rfl, ckd (by omega), if_neg hc, gDr, hg, gR_la hla, obind, RF_la_7 σ hla, gDr, hg, gI_la hla, obind, c2, show (8 : Int32) = nI 8 from rfl, nI_add, put_nI (n := 13) (by rw [hpS_hk]; exact SH_la2 hla) (by omega) (by omega), obind, setI_hk, hpI_hk']
    rw [gDr, hg, gR_la hla, obind, RF_la_8 σ hla, gDr, hg, gI_la hla, obind, rowUp_ne _ _ (show la ≠ la + 2 by omega), c2, put_nI (n := 5) (by rw [hpS_hk]; exact SH_la3 hla) (by omega) (by omega), obind, setI_hk, hpI_hk', rowUp_ne _ _ (show la + 3 ≠ la + 2 by omega)]
    rw [gDr, hg, gR_la hla, obind, RF_la_11 σ hla, gDr, hg, gI_la hla, obind, gDr, hg, gI_la hla, obind, rowUp_ne _ _ (show la ≠ la + 3 by omega), rowUp_ne _ _ (show la ≠ la + 2 by omega), c2, put_nI (n := 5) (by rw [hpS_hk]; exact SH_la6 hla) (by omega) (by omega), obind, setI_hk, hpI_hk', rowUp_ne _ _ (show la + 6 ≠ la + 3 by omega), rowUp_ne _ _ (show la + 6 ≠ la + 2 by omega), ← hIc]
    rw [gDs, hgs, gDr, hg, gI_la hla, obind, ic la (by omega) (by omega) (by omega), c2, fe, b2s, gDr, hg, gI_la hla, obind, qo la (by omega), ic la (by omega) (by omega) (by omega), c2, nI_1, sI_la hla, obind, ← hIe]
  rcases exp_ok (σ := σ) (τ := τ) (L := L) pc hp.2.1 (c := 59) (by omega) (by omega) with ⟨_, ⟨I4, x1, x2, x3, x4⟩, J2, M2, z1, z2, z3⟩ | ⟨_, fl, pl, ⟨I4, x1, x2, x3⟩, J2, M2, z1, z2, z3⟩
  · have x1 : mX2_expect 282 (59 : Int32) (hk σ Ie L) = some (1, hk σ I4 L) := x1
    have l435 : rTd J2 T := hp.2.2.2.2.1.mf z3
    have tA := l435.set (16 + k) w
    have tB := tA.set (21 + k) r
    have tC := tB.set (26 + k) j
    have tD := tC.set 2 (k + 1)
    obtain ⟨T', hT⟩ : ∃ T', T' = updA (updA (updA (updA T (16 + k) w) (21 + k) r) (26 + k) j) 2 (k + 1) := ⟨_, rfl⟩
    have v2 : updA (updA (updA T (16 + k) w) (21 + k) r) (26 + k) j 2 = k := by rw [updA_ne _ _ (by omega), updA_ne _ _ (by omega), updA_ne _ _ (by omega), h2]
    rw [← hT] at tD
    have w2 : T' 2 = k + 1 := by rw [hT, updA_same]
    have w16 : T' (16 + k) = w := by rw [hT, updA_ne _ _ (by omega), updA_ne _ _ (by omega), updA_ne _ _ (by omega), updA_same]
    have w21 : T' (21 + k) = r := by rw [hT, updA_ne _ _ (by omega), updA_ne _ _ (by omega), updA_same]
    have w26 : T' (26 + k) = j := by rw [hT, updA_ne _ _ (by omega), updA_same]
    have un : ∀ x, x ≠ 2 → x ≠ 16 + k → x ≠ 21 + k → x ≠ 26 + k → T' x = T x := fun x a b c d => by rw [hT, updA_ne _ _ a, updA_ne _ _ d, updA_ne _ _ c, updA_ne _ _ b]
    have w1 : T' 1 = T 1 := un 1 (by omega) (by omega) (by omega) (by omega)
    have wc : cT T' = cT T := by funext x; exact un _ (by omega) (by omega) (by omega) (by omega)
    have w7 : T' 7 = T 7 := un 7 (by omega) (by omega) (by omega) (by omega)
    have w6 : T' 6 = b + j := by rw [un 6 (by omega) (by omega) (by omega) (by omega), h6]
    have lo : ∀ x, x ≠ 2 → x ≠ 6 → x ≠ 16 + k → x ≠ 21 + k → x ≠ 26 + k → T' x = updA T 6 b x := fun x a b c d e => by rw [Un x b, un x a c d e]
    obtain ⟨J5, hJ5⟩ : ∃ J5, J5 = rowUp (rowUp (rowUp (rowUp J2 435 (updA (J2 435) (16 + k) (nI w))) 435 (updA ((rowUp J2 435 (updA (J2 435) (16 + k) (nI w))) 435) (21 + k) (nI r))) 435 (updA ((rowUp (rowUp J2 435 (updA (J2 435) (16 + k) (nI w))) 435 (updA ((rowUp J2 435 (updA (J2 435) (16 + k) (nI w))) 435) (21 + k) (nI r))) 435) (26 + k) (nI j))) 435 (updA ((rowUp (rowUp (rowUp J2 435 (updA (J2 435) (16 + k) (nI w))) 435 (updA ((rowUp J2 435 (updA (J2 435) (16 + k) (nI w))) 435) (21 + k) (nI r))) 435 (updA ((rowUp (rowUp J2 435 (updA (J2 435) (16 + k) (nI w))) 435 (updA ((rowUp J2 435 (updA (J2 435) (16 + k) (nI w))) 435) (21 + k) (nI r))) 435) (26 + k) (nI j))) 435) 2 (nI (k + 1))) := ⟨_, rfl⟩
    rw [← hJ5] at tD
    have j5 : ∀ x, x ≠ 435 → J5 x = J2 x := fun x hx => by rw [hJ5, rowUp_ne _ _ hx, rowUp_ne _ _ hx, rowUp_ne _ _ hx, rowUp_ne _ _ hx]
    have hmd : mX12_readCount_l76 433 (nI k) (nI w) (nI r) (nI j) (hk τ J M) = some (hk τ J5 M2) := by
      unfold mX12_readCount_l76
      refine lp_inr ?_
      show mX12_readCount_l76f 433 (nI k) (nI w) (nI r) (nI j) (hk τ J M) = _
      unfold mX12_readCount_l76f
      rw [iw, obind, if_pos (show bI false = 0 from rfl), show (59 : Int32) = nI 59 from rfl, isSign_ok hp.2.1.2.1 hp.2.1.2.2 (by decide), obind, z1, obind, gMI, obind, if_pos z2.2.2]
      rw [gM 1, RF_433_1, show (16 : Int32) = nI 16 from rfl, nI_add, st435 _ (by omega), obind]
      rw [gM 1, RF_433_1, show (21 : Int32) = nI 21 from rfl, nI_add, st435 _ (by omega), obind]
      rw [gM 1, RF_433_1, show (26 : Int32) = nI 26 from rfl, nI_add, st435 _ (by omega), obind]
      rw [gM 1, RF_433_1, show (2 : Int32) = nI 2 from rfl, ld435 tC (by omega), obind, v2, nI_1, st435 _ (by omega), obind, ← hJ5, xts]
    have g : GR (updA T 6 b) T' := ⟨by rw [w7, Un 7 (by omega)]; exact Nat.le_refl _, fun x h1 h2 => lo x (by omega) (by omega) (by omega) (by omega) (by omega), fun e he => ⟨lo _ (by omega) (by omega) (by omega) (by omega) (by omega), lo _ (by omega) (by omega) (by omega) (by omega) (by omega)⟩⟩
    have em : may T' = may (updA T 6 b) := g.mayc hS (lo 3 (by omega) (by omega) (by omega) (by omega) (by omega)) (fun x _ => lo _ (by omega) (by omega) (by omega) (by omega) (by omega))
    obtain ⟨⟨a1, a2, a3, a4, a5, a6, a7⟩, b', c, d, ee, ff, gq, hh, w0, w01, w02⟩ := id hS
    have U2 : updA T 6 b 2 = k := by rw [Un 2 (by omega), h2]
    have U1 : updA T 6 b 1 = T 1 := Un 1 (by omega)
    have dz := d k (by omega) (by omega)
    have pk2 : (2 : Nat) ^ k ≤ 2 ^ (k + 1) := Nat.pow_le_pow_right (by omega) (by omega)
    obtain ⟨ef, ek⟩ := fst0_new (T' := T') U2 h4 w2 (fun x hx => lo _ (by omega) (by omega) (by omega) (by omega) (by omega)) dz.2.2 (fun x hx => by have := (c x (by omega)).2.2.2.2.2.2; rw [U2] at this; exact this)
    obtain ⟨⟨d0, d3, d4, d5, dm⟩, dO, dk, ds, dp', dq, ⟨dj, d2⟩, dst⟩ := hD
    have i4 : ∀ x, x ≠ 282 → I4 x = Ie x := x3
    refine Or.inl ⟨I4, J5, L, M2, i + 1, updA W (8 + k) l, T', lim, cls (by rw [b164, x1, b2s]; rfl) rfl, hmd, ⟨⟨dp, ?_⟩, ⟨⟨?_, ?_, ?_, ?_, a5, ?_, ?_⟩, fun f hf => ?_, fun k2 hk2 => ?_, fun k2 h1 h2 => ?_, fun p hp => ?_, fun k2 hk2 => ?_, fun e he => ?_, ?_, w0, ?_, ?_⟩, ⟨⟨?_, ?_, ?_, ?_, ?_⟩, fun f hf => ?_, fun k2 hk2 => ?_, fun k2 hk2 => ?_, fun p hp => ?_, fun q hq => ?_, ⟨fun j' h1 h2 => ?_, ?_⟩, fun k2 hk2 => ?_⟩, ?_, hO, by rw [updA_ne _ _ (by omega)]; exact hW⟩, un 0 (by omega) (by omega) (by omega) (by omega), by omega, ⟨fun x a b c d => by rw [i4 x a, ix x (by omega) (by omega) (by omega) (by omega) d], fun _ _ _ _ => rfl⟩, ?_⟩
    · have kx : ∀ x, J5 433 x = J2 433 x := fun x => by rw [j5 433 (by omega)]
      refine ⟨x2, ⟨⟨z2.1.1, by rw [kx]; exact z2.1.2.1, fun x hx => by rw [j5 442 (by omega)]; exact z2.1.2.2 x hx⟩, ⟨by rw [kx]; exact z2.2.1.1, by rw [kx]; exact z2.2.1.2.1, by rw [kx]; exact z2.2.1.2.2.1, by rw [kx]; exact z2.2.1.2.2.2.1, z2.2.1.2.2.2.2⟩, by rw [kx]; exact z2.2.2⟩, ⟨by rw [w1]; exact c8, by rw [w2]; omega, ?_, fun _ => ?_, fun f hf => ?_, fun _ k2 hk2 => ?_⟩, ⟨by rw [w1]; exact m8, by rw [w2]; omega, ?_, fun _ => ?_, fun f hf => ?_, fun _ k2 hk2 => ?_⟩, tD, ⟨?_, fun x hx => ?_⟩, by omega, ?_⟩
      · rw [w1, i4 la (by omega), ie0, updA_ne _ _ (by omega)]; exact c1
      · rw [w2, i4 la (by omega), ie0, updA_same]
      · rw [w1] at hf
        rw [i4 _ (by omega), ie2, updA_ne _ _ (by omega), updA_ne _ _ (by omega)]; exact cf f hf
      · rw [w2] at hk2
        rw [i4 _ (by omega), ie2, updA_at, updA_at]
        by_cases e : k2 = k
        · rw [if_pos (by omega), if_pos (by omega)]; exact ⟨hl, rfl⟩
        · rw [if_neg (by omega), if_neg (by omega)]; exact cn k2 (by omega)
      · rw [tD 1 (by omega)]
      · rw [tD 2 (by omega)]
      · rw [w1] at hf
        rw [z3.2.2.1, updA_ne _ _ (by omega)]; exact mf f hf
      · rw [w2] at hk2
        rw [z3.2.2.1, updA_at]
        by_cases e : k2 = k
        · rw [if_pos (by omega), e]; exact ⟨hl, hM⟩
        · rw [if_neg (by omega)]; exact mn k2 (by omega)
      · rw [w7, i4 la (by omega), ie0, updA_ne _ _ (by omega)]; exact hp.2.2.2.2.2.1.1
      · rw [w7] at hx
        rw [wc, i4 _ (by omega), ix (la + 7) (by omega) (by omega) (by omega) (by omega) (by omega)]
        exact hp.2.2.2.2.2.1.2 x hx
      · rw [kx, z3.2.2.2.1]; exact hp.2.2.2.2.2.2.2
    · rw [w1, ← U1]; exact a1
    · rw [w2]; omega
    · rw [lo 3 (by omega) (by omega) (by omega) (by omega) (by omega)]; exact a3
    · rw [lo 4 (by omega) (by omega) (by omega) (by omega) (by omega)]; exact a4
    · rw [lo 5 (by omega) (by omega) (by omega) (by omega) (by omega)]; exact a6
    · rw [w6, w2, lo 3 (by omega) (by omega) (by omega) (by omega) (by omega), lo 4 (by omega) (by omega) (by omega) (by omega) (by omega)]
      show b + j = _ + _ + (ndT T' k + T' (26 + k))
      rw [w26, ndT_cg (T := updA T 6 b) (T' := T') (fun x hx => lo _ (by omega) (by omega) (by omega) (by omega) (by omega))]
      rw [U6, U2] at a7
      omega
    · rw [w1, ← U1] at hf
      rw [lo (8 + f) (by omega) (by omega) (by omega) (by omega) (by omega)]; exact b' f hf
    · rw [w2] at hk2
      by_cases q : k2 = k
      · subst q
        rw [w16, w21, w26, w6, lo (51 + k2) (by omega) (by omega) (by omega) (by omega) (by omega), lo (56 + k2) (by omega) (by omega) (by omega) (by omega) (by omega), lo (61 + k2) (by omega) (by omega) (by omega) (by omega) (by omega), dz.1, dz.2.1, dz.2.2]
        refine ⟨hw, hr, hj4, fun x hx' => ?_, Nat.two_pow_pos _, rfl, Nat.two_pow_pos _⟩
        rw [un _ (by omega) (by omega) (by omega) (by omega), (hx x hx').1]
        omega
      · obtain ⟨c1', c2', c3, c4, c5', c6, c7⟩ := c k2 (by omega)
        refine ⟨?_, ?_, ?_, fun x hx' => ?_, ?_, ?_, ?_⟩
        · rw [lo (16 + k2) (by omega) (by omega) (by omega) (by omega) (by omega)]; exact c1'
        · rw [lo (21 + k2) (by omega) (by omega) (by omega) (by omega) (by omega)]; exact c2'
        · rw [lo (26 + k2) (by omega) (by omega) (by omega) (by omega) (by omega)]; exact c3
        · rw [lo (26 + k2) (by omega) (by omega) (by omega) (by omega) (by omega)] at hx'
          rw [lo (31 + 4 * k2 + x) (by omega) (by omega) (by omega) (by omega) (by omega), w6]
          have := c4 x hx'
          omega
        · rw [lo (51 + k2) (by omega) (by omega) (by omega) (by omega) (by omega), w1, ← U1]; exact c5'
        · rw [lo (51 + k2) (by omega) (by omega) (by omega) (by omega) (by omega), lo (56 + k2) (by omega) (by omega) (by omega) (by omega) (by omega)]; exact c6
        · rw [lo (61 + k2) (by omega) (by omega) (by omega) (by omega) (by omega), w2]
          rw [U2] at c7
          omega
    · rw [w2] at h1
      rw [lo (51 + k2) (by omega) (by omega) (by omega) (by omega) (by omega), lo (56 + k2) (by omega) (by omega) (by omega) (by omega) (by omega), lo (61 + k2) (by omega) (by omega) (by omega) (by omega) (by omega)]
      exact d k2 (by omega) h2
    · rw [lo 4 (by omega) (by omega) (by omega) (by omega) (by omega)] at hp
      rw [lo (66 + p) (by omega) (by omega) (by omega) (by omega) (by omega), lo (72 + p) (by omega) (by omega) (by omega) (by omega) (by omega), w2, w6]
      have := ee p hp
      omega
    · rw [lo 3 (by omega) (by omega) (by omega) (by omega) (by omega)] at hk2
      rw [lo (78 + k2) (by omega) (by omega) (by omega) (by omega) (by omega), w6]
      have := ff k2 hk2
      omega
    · rw [w6] at he
      by_cases q : e < b
      · have ew := hS.ew (e := e) (by omega)
        have gg := g.2.2 e (by omega)
        rw [gg.1, gg.2]
        exact ⟨g.wfc ew.2 ew.1, Nat.le_trans ew.2 g.1⟩
      · obtain ⟨x, rfl⟩ : ∃ x, e = b + x := ⟨e - b, by omega⟩
        obtain ⟨z1, z2, z3, _⟩ := hx x (by omega)
        rw [un _ (by omega) (by omega) (by omega) (by omega), un _ (by omega) (by omega) (by omega) (by omega), w7, wc]
        exact ⟨z2, z3⟩
    · rw [w7, wc, w1]
      rw [Un 7 (by omega), Uc, U1] at hh
      exact hh
    · rw [w1, ← U1]; exact w01
    · rw [em]; exact w02
    · rw [i4 la (by omega), ie0, updA_ne _ _ (by omega), lo 0 (by omega) (by omega) (by omega) (by omega) (by omega)]; exact d0
    · rw [i4 la (by omega), ie0, updA_ne _ _ (by omega), lo 3 (by omega) (by omega) (by omega) (by omega) (by omega)]; exact d3
    · rw [i4 la (by omega), ie0, updA_ne _ _ (by omega), lo 4 (by omega) (by omega) (by omega) (by omega) (by omega)]; exact d4
    · rw [i4 la (by omega), ie0, updA_ne _ _ (by omega)]; exact d5
    · rw [em]; exact dm
    · rw [w1, ← U1] at hf
      rw [i4 _ (by omega), ix (la + 1) (by omega) (by omega) (by omega) (by omega) (by omega), lo (8 + f) (by omega) (by omega) (by omega) (by omega) (by omega)]
      exact dO f hf
    · rw [w2] at hk2
      rw [i4 (la + 3) (by omega), ie3, i4 (la + 6) (by omega), ie6, i4 (la + 8) (by omega), ix (la + 8) (by omega) (by omega) (by omega) (by omega) (by omega), i4 (la + 9) (by omega), ix (la + 9) (by omega) (by omega) (by omega) (by omega) (by omega), ef]
      by_cases q : k2 = k
      · subst q
        rw [updA_same, updA_same, w26, ek]
        refine ⟨rfl, rfl, fun x hx' => ?_⟩
        obtain ⟨z1, z2, z3, z4, z5⟩ := hx x hx'
        rw [un (31 + 4 * k2 + x) (by omega) (by omega) (by omega) (by omega), z1, un _ (by omega) (by omega) (by omega) (by omega), un _ (by omega) (by omega) (by omega) (by omega)]
        exact ⟨z4, z5⟩
      · have c3 := (c k2 (by omega)).2.2.1
        rw [updA_ne _ _ q, updA_ne _ _ q, lo (26 + k2) (by omega) (by omega) (by omega) (by omega) (by omega)]
        refine ⟨(dk k2 (by omega)).1, (dk k2 (by omega)).2.1, fun x hx' => ?_⟩
        have c4 := (c k2 (by omega)).2.2.2.1 x hx'
        rw [lo (31 + 4 * k2 + x) (by omega) (by omega) (by omega) (by omega) (by omega), (g.2.2 _ c4).1, (g.2.2 _ c4).2]
        exact (dk k2 (by omega)).2.2 x hx'
    · rw [i4 (la + 5) (by omega), ix (la + 5) (by omega) (by omega) (by omega) (by omega) (by omega), lo (61 + k2) (by omega) (by omega) (by omega) (by omega) (by omega)]
      exact ds k2 hk2
    · rw [lo 4 (by omega) (by omega) (by omega) (by omega) (by omega)] at hp
      have c4 := (ee p hp).2
      rw [i4 (la + 4) (by omega), ix (la + 4) (by omega) (by omega) (by omega) (by omega) (by omega), i4 (la + 8) (by omega), ix (la + 8) (by omega) (by omega) (by omega) (by omega) (by omega), i4 (la + 9) (by omega), ix (la + 9) (by omega) (by omega) (by omega) (by omega) (by omega), lo (66 + p) (by omega) (by omega) (by omega) (by omega) (by omega), lo (72 + p) (by omega) (by omega) (by omega) (by omega) (by omega), (g.2.2 _ c4).1, (g.2.2 _ c4).2]
      exact dp' p hp
    · exact g.slc (dq q hq) (by rw [i4 (la + 8) (by omega), ix (la + 8) (by omega) (by omega) (by omega) (by omega) (by omega)]) (by rw [i4 (la + 9) (by omega), ix (la + 9) (by omega) (by omega) (by omega) (by omega) (by omega)])
    · rw [i4 s (by omega), ies s (by omega) (by omega), q0, updA_ne _ _ h2, ic s (by omega) (by omega) (by omega)]
      exact dj j' h1 h2
    · rw [i4 s (by omega), ies s (by omega) (by omega), q0, updA_same, w2]
    · rw [w2] at hk2
      rw [i4 (s + 1) (by omega), ies (s + 1) (by omega) (by omega), q1, i4 (s + 2) (by omega), ies (s + 2) (by omega) (by omega), q2, i4 (s + 3) (by omega), ies (s + 3) (by omega) (by omega), q3, i4 (s + 4) (by omega), ies (s + 4) (by omega) (by omega), q4, i4 (s + 5) (by omega), ies (s + 5) (by omega) (by omega), q5, i4 (s + 6) (by omega), ies (s + 6) (by omega) (by omega), q6]
      by_cases q : k2 = k
      · subst q
        rw [updA_same, updA_same, updA_same, updA_same, updA_same, updA_same, w16, w21, lo (51 + k2) (by omega) (by omega) (by omega) (by omega) (by omega), lo (56 + k2) (by omega) (by omega) (by omega) (by omega) (by omega), dz.1, dz.2.1]
        exact ⟨rfl, rfl, rfl, rfl, rfl, rfl⟩
      · rw [updA_ne _ _ q, updA_ne _ _ q, updA_ne _ _ q, updA_ne _ _ q, updA_ne _ _ q, updA_ne _ _ q, ic (s + 1) (by omega) (by omega) (by omega), ic (s + 2) (by omega) (by omega) (by omega), ic (s + 3) (by omega) (by omega) (by omega), ic (s + 4) (by omega) (by omega) (by omega), ic (s + 5) (by omega) (by omega) (by omega), ic (s + 6) (by omega) (by omega) (by omega), lo (16 + k2) (by omega) (by omega) (by omega) (by omega) (by omega), lo (21 + k2) (by omega) (by omega) (by omega) (by omega) (by omega), lo (51 + k2) (by omega) (by omega) (by omega) (by omega) (by omega), lo (56 + k2) (by omega) (by omega) (by omega) (by omega) (by omega)]
        exact dst k2 (by omega)
    · rw [j5 433 (by omega), z3.2.2.2.2, h22]
    · rw [hJ5]
      exact z3.1.tr ((MX.u435 _).1.tr ((MX.u435 _).1.tr ((MX.u435 _).1.tr (MX.u435 _).1)))
  · have x1 : mX2_expect 282 (59 : Int32) (hk σ Ie L) = some (0, hk σ I4 L) := x1
    refine Or.inr ⟨fl, pl, I4, J2, L, M2, cls (by rw [b164, x1, b2s]; rfl) rfl, ?_, x2, z2, ⟨fun x a b c d => by rw [x3 x a, ix x (by omega) (by omega) (by omega) (by omega) d], fun _ _ _ _ => rfl⟩, z3.1⟩
    unfold mX12_readCount_l76
    refine lp_inr ?_
    show mX12_readCount_l76f 433 (nI k) (nI w) (nI r) (nI j) (hk τ J M) = _
    unfold mX12_readCount_l76f
    rw [iw, obind, if_pos (show bI false = 0 from rfl), show (59 : Int32) = nI 59 from rfl, isSign_ok hp.2.1.2.1 hp.2.1.2.2 (by decide), obind, z1, obind, gMI, obind, if_neg z2.ne, xts]
end CountEnd
