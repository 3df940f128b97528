/-! ALL that holds between calls, and a call on both sides -/
def AL (σ : Sg) (I : Nat → Nat → Int32) (L : Nat → Nat → Int64) (S : Nat → Int32) (T N : Nat → Nat) (a : Nat) (P : Nat → Nat → Nat) (K : Nat → Bool) (Q : Nat → Nat → Nat) (X : Nat → Nat) (n fl pl : Nat) (W : Nat → List Nat) : Prop :=
  SG σ ∧ I 1 = S ∧ BI σ I L T N a P K Q ∧ TX I X n ∧ FA I fl pl ∧ AS I L ∧ NM I L (gla σ) (T 1) W ∧ RS I
def ALL (σ : Sg) (I : Nat → Nat → Int32) (L : Nat → Nat → Int64) (S : Nat → Int32) : Prop := ∃ T N a P K Q X n fl pl W, AL σ I L S T N a P K Q X n fl pl W
def LW (σ : Sg) (S : Nat → Int32) (cls : Option (Int32 × Hp)) (mdl : Hp → Option (Int32 × Hp)) : Prop := ∃ v σ1 I1 L1 I2 L2, cls = some (v, hk σ1 I1 L1) ∧ mdl (hk σ1 I1 L1) = some (v, hk σ1 I2 L2) ∧ (gN σ1 = gN σ ∧ I1 1 = S) ∧ ALL σ1 I2 L2 S
section QSuit
variable {σ σ' : Sg} {I I' J J' I1 I2 I3 Ja : Nat → Nat → Int32} {L L' M M' L1 L2 : Nat → Nat → Int64} {S : Nat → Int32} {X : Nat → Nat} {n m i i2 la off t1 t2 fl pl dp h0 kk lim s k b j w r c v a : Nat} {W : Nat → List Nat} {T T' N : Nat → Nat} {P : Nat → Nat → Nat} {K : Nat → Bool} {Q : Nat → Nat → Nat}
theorem hk_inj {v w : Int32} (h : some (v, hk σ I L) = some (w, hk σ I' L')) : v = w ∧ I = I' ∧ L = L' := by
  have h := Option.some.inj h
  refine ⟨congrArg Prod.fst h, ?_, ?_⟩
  · exact congrArg (fun h : Int32 × Hp => h.2.2.1) h
  · exact congrArg (fun h : Int32 × Hp => h.2.2.2.1) h
/-- the class, ahead of the lines -/
theorem cpre_ok (hX : TX I X n) (hR : RS I) (hla : isLa la) (hs : s = 268 ∨ s = 275) (hO : SOk L) :
    ∃ m I1 I5 L5, mX8_split 103 101 (hk σ I L) = some (hk σ I1 L) ∧ mX2_readSuit 282 la s (hk σ (rowUp I1 101 (updA (I1 101) 1 0)) L) = mX2_readSuit_l26 282 0 (hk (sgs (sgl σ la) s) I5 L5) ∧ PCk I5 X n m 0 ∧ (∀ k, (k < 6 ∨ k = 13) → I5 la k = 0) ∧ (∀ k, k < 5 → I5 (la + 3) k = 0 ∧ I5 (la + 5) k = 0) ∧ (∀ q, q < 26 → I5 (la + 8) q = 0 ∧ I5 (la + 9) q = 0) ∧ Rw (L5 (la + 12)) (fun _ => true) ∧ (∀ k, k < 9 → I5 s k = 0) ∧ I5 101 1 = 0 ∧ SOk L5 ∧
      (∀ x, x ≠ 101 → (x < 103 ∨ 106 < x) → x ≠ 282 → (x < la ∨ la + 78 ≤ x) → (x < s ∨ s + 7 ≤ x) → I5 x = I x) ∧ ∀ x, x ≠ la + 12 → L5 x = L x := by
  have hla' : la = 112 ∨ la = 190 := hla
  have hst : isSt s := by unfold isSt; omega
  obtain ⟨m, I1, se, hm, hTK, hpz, hlt, hTF⟩ := split_ok (σ := σ) (L := L) (X := X) (n := n) ⟨hX.1, hX.2.1, fun i hi => ⟨(hX.2.2.2 i hi).1, (hX.2.2.2 i hi).2.1⟩⟩ hR
  obtain ⟨I3, hI3⟩ : ∃ I3, I3 = rowUp (rowUp I1 101 (updA (I1 101) 1 0)) 282 (updA (updA (I1 282) 5 0) 7 0) := ⟨_, rfl⟩
  obtain ⟨I4, r4, ce, c1, c2, c3, c4, c5⟩ := clear_ok (σ := sgs (sgl σ la) s) (I := I3) (L := L) hla
  obtain ⟨r5, de, d1⟩ := sclear_ok (σ := sgs (sgl σ la) s) (I := I4) (L := rowUp L (la + 12) r4) hst
  have i3 : ∀ x, x ≠ 101 → x ≠ 282 → I3 x = I1 x := fun x a b => by rw [hI3, rowUp_ne _ _ b, rowUp_ne _ _ a]
  have i5 : ∀ x, (x < la ∨ la + 78 ≤ x) → x ≠ s → rowUp I4 s r5 x = I3 x := fun x a b => by rw [rowUp_ne _ _ b, c5 x (by omega)]
  have i1 : ∀ x, (x < 103 ∨ 106 < x) → I1 x = I x := fun x hx => by
    by_cases q : x = 107
    · rw [q]; exact hTF.1
    · exact hTF.2 x (by omega)
  refine ⟨m, I1, rowUp I4 s r5, rowUp L (la + 12) r4, se, ?_, ⟨⟨hX.1, by rw [i5 282 (by omega) (by omega), hI3, rowUp_same, updA_same]⟩, hm, ⟨by rw [i5 103 (by omega) (by omega), i3 103 (by omega) (by omega)]; exact hTK.1, fun j hj => by rw [i5 104 (by omega) (by omega), i3 104 (by omega) (by omega), i5 105 (by omega) (by omega), i3 105 (by omega) (by omega), i5 106 (by omega) (by omega), i3 106 (by omega) (by omega)]; exact hTK.2 j hj⟩, hpz, hlt, by rw [i5 282 (by omega) (by omega), hI3, rowUp_same, updA_ne _ _ (by omega), updA_same]; rfl, Nat.zero_le _⟩, fun k hk' => by rw [rowUp_ne _ _ (by omega)]; exact c2 k hk', fun k hk' => by rw [rowUp_ne _ _ (by omega), rowUp_ne _ _ (by omega)]; exact c3 k hk', fun q hq => by rw [rowUp_ne _ _ (by omega), rowUp_ne _ _ (by omega)]; exact c4 q hq, by rw [rowUp_same]; exact c1, fun k hk' => by rw [rowUp_same]; exact d1 k hk', by rw [i5 101 (by omega) (by omega), hI3, rowUp_ne _ _ (by omega), rowUp_same, updA_same], fun f hf => by rw [rowUp_ne _ _ (by omega)]; exact hO f hf, fun x a b c d e => by rw [i5 x d (by omega), i3 x a c, i1 x b], fun x hx => rowUp_ne _ _ hx⟩
  unfold mX2_readSuit mX2_begin
  rw [if_pos s282, if_pos s282, sR_l, obind, sI_ok s282, obind, setI_hk, hpI_hk', rowUp_ne (a := 101) (b := 282) _ _ (by omega), sI_ok s282, obind, setI_hk, hpI_hk', rowUp_two, rowUp_same, obind, ← hI3, sR_s, obind, gDr, show gpl (sgs (sgl σ la) s) = la from rfl, ce, obind, gDs, show gps (sgs (sgl σ la) s) = s from rfl, de, obind]
/-- suit -/
theorem q_suit (h : AL σ I L S T N a P K Q X n fl pl W) : LW σ S (mX11_suit 100 (hk σ I L)) (fun hp => mX12_suit 433 hp) := by
  obtain ⟨hSG, hS1, hB, hX, hF, hA, hN, hR⟩ := id h
  obtain ⟨ga, gb, gne, sa1, sa2, sb1, sb2, sne⟩ := id hSG
  obtain ⟨la, hlb⟩ : ∃ la, la = glb σ := ⟨_, rfl⟩
  obtain ⟨s, hsb⟩ : ∃ s, s = gsb σ := ⟨_, rfl⟩
  rw [← hlb] at gb gne
  rw [← hsb] at sb1 sb2 sne
  have hs : s = 268 ∨ s = 275 := by unfold isSt at sb1; omega
  have hsa : gsa σ = 268 ∨ gsa σ = 275 := by unfold isSt at sa1; omega
  have hla' : la = 112 ∨ la = 190 := gb
  have hga' : gla σ = 112 ∨ gla σ = 190 := ga
  have hO : SOk L := hB.1.1.2.2
  obtain ⟨m, I1, I5, L5, se, re, pc, z1, z2, z3, z4, z5, z6, hO5, f5, g5⟩ := cpre_ok (σ := σ) hX hR gb hs hO
  obtain ⟨σb, hσb⟩ : ∃ σb, σb = sgs (sgl σ la) s := ⟨_, rfl⟩
  rw [← hσb] at re
  have bg : gpl σb = la := by rw [hσb]; rfl
  have bs : gps σb = s := by rw [hσb]; rfl
  have pre : mX11_suit 100 (hk σ I L) = b2 (mX2_readSuit_l26 282 0 (hk σb I5 L5)) fun v10 h11 => if v10 = 0 then (some ((-1 : Int32), h11)) else ((gR 11 4 100 h11).bind fun v12 => (gR 11 2 100 h11).bind fun v13 => (mX1_finish v12 v13 h11).bind fun h15 => (gR 11 4 100 h15).bind fun v16 => (gR 11 3 100 h15).bind fun v17 => (sR 11 4 100 v17 h15).bind fun h18 => (sR 11 3 100 v16 h18).bind fun h19 => (gR 11 6 100 h19).bind fun v20 => (gR 11 5 100 h19).bind fun v21 => (sR 11 6 100 v21 h19).bind fun h22 => (sR 11 5 100 v20 h22).bind fun h23 => (gR 11 8 100 h23).bind fun v24 => (mX0_forget v24 h23).bind fun h26 => (sL 11 17 100 (0 : Int64) h26).bind fun h27 => (gR 11 3 100 h27).bind fun v28 => (gI 1 0 v28 h27).bind fun v29 => some (v29, h27)) := by
    unfold mX11_suit
    rw [if_pos s100, show gR 11 1 100 (hk σ I L) = some 103 from rfl, obind, gTxt, se, obind, gTxt, sI_ok s101, obind, setI_hk, hpI_hk', gPar, show gR 11 4 100 (hk σ (rowUp I1 101 (updA (I1 101) 1 0)) L) = some (glb σ) from rfl, obind, show gR 11 6 100 (hk σ (rowUp I1 101 (updA (I1 101) 1 0)) L) = some (gsb σ) from rfl, obind, ← hlb, ← hsb, re]
  -- a run of the lines against any model that has begun
  have run : ∀ {τ : Sg} {J M}, PMk J M X n 0 → (∀ j, j < 640 → J 435 j = nI (T00 j)) → J 433 22 = 0 → _ := fun {τ J M} p t z => loop_ok (σ := σb) (τ := τ) (X := X) (n := n) gb bg bs hs m (i := 0) (by omega) (by show (0 : Nat) ≤ 0; omega) (sv0_ok gb hs pc p hO5 z1 z2 z3 z4 z5 t z)
  obtain ⟨J0, M0, _, p0, t0, u0, _⟩ := mbegin_ok (σ := σ) (J := I) (M := L) hX.1 hX.2.2.1 (fun i hi => ⟨(hX.2.2.2 i hi).1, (hX.2.2.2 i hi).2.2⟩)
  have i433 : I5 433 = I 433 := f5 433 (by omega) (by omega) (by omega) (by omega) (by omega)
  have i442 : I5 442 = I 442 := f5 442 (by omega) (by omega) (by omega) (by omega) (by omega)
  rcases run (τ := σb) p0 t0 u0 with ⟨I', J1, L', M1, W', T', lim', c1, c2, c3, c4, c5, c6⟩ | ⟨fl', pl', I', J1, L', M1, c1, c2, c3, c4, c5, c6⟩
  · have c1 : mX2_readSuit_l26 282 0 (hk σb I5 L5) = some (1, hk σb I' L') := c1
    obtain ⟨I6, L6, fe, clw, f6, g6⟩ := finish_ok (σ := σb) gb hs c3
    obtain ⟨σm, hσm⟩ : ∃ σm, σm = sga (sgb σb (gla σ)) la := ⟨_, rfl⟩
    obtain ⟨σf, hσf⟩ : ∃ σf, σf = sgc (sgd σm (gsa σ)) s := ⟨_, rfl⟩
    obtain ⟨I9, hI9⟩ : ∃ I9, I9 = rowUp I6 285 (updA (updA (I6 285) 4 0) 2 0) := ⟨_, rfl⟩
    obtain ⟨L9, hL9⟩ : ∃ L9, L9 = rowUp L6 100 (updA (L6 100) 17 0) := ⟨_, rfl⟩
    have e4 : ∀ I L, gR 11 4 100 (hk σb I L) = some la := fun I L => by rw [hσb, hlb]; rfl
    have e3 : ∀ I L, gR 11 3 100 (hk σb I L) = some (gla σ) := fun I L => by rw [hσb]; rfl
    have e2 : ∀ I L, gR 11 2 100 (hk σb I L) = some 108 := fun I L => rfl
    have e6 : ∀ I L, gR 11 6 100 (hk σm I L) = some s := fun I L => by rw [hσm, hσb, hsb]; rfl
    have e5 : ∀ I L, gR 11 5 100 (hk σm I L) = some (gsa σ) := fun I L => by rw [hσm, hσb]; rfl
    have e8 : ∀ I L, gR 11 8 100 (hk σf I L) = some 285 := fun I L => rfl
    have ef3 : ∀ I L, gR 11 3 100 (hk σf I L) = some la := fun I L => by rw [hσf, hσm]; rfl
    have gf : gla σf = la ∧ glb σf = gla σ ∧ gsa σf = s ∧ gsb σf = gsa σ ∧ gN σf = gN σ := by rw [hσf, hσm, hσb]; exact ⟨rfl, rfl, rfl, rfl, rfl⟩
    have cls : mX11_suit 100 (hk σ I L) = some (I9 la 0, hk σf I9 L9) := by
      rw [pre, c1, b2s, if_neg (show ¬ (1 : Int32) = 0 by decide), e4, obind, e2, obind, fe, obind, e4, obind, e3, obind, sR_b, obind, sR_a, obind, ← hσm, e6, obind, e5, obind, sR_d, obind, sR_c, obind, ← hσf, e8, obind]
      unfold mX0_forget
      rw [if_pos s285, sI_ok s285, obind, setI_hk, hpI_hk', sI_ok s285, obind, setI_hk, hpI_hk', rowUp_two, rowUp_same, obind, ← hI9, sL_ok s100, obind, setL_hk, hpL_hk'', ← hL9, ef3, obind, gI_la gb, obind]
    have i9 : ∀ x, x ≠ 285 → I9 x = I6 x := fun x hx => by rw [hI9, rowUp_ne _ _ hx]
    have l9 : ∀ x, x ≠ 100 → L9 x = L6 x := fun x hx => by rw [hL9, rowUp_ne _ _ hx]
    have iy : ∀ x, x ≠ 282 → x ≠ 108 → (x < la ∨ la + 78 ≤ x) → (x < s ∨ s + 7 ≤ x) → x ≠ 101 → (x < 103 ∨ 106 < x) → I6 x = I x := fun x a b c d e f => by rw [f6 x b (by omega) (by omega), c5.1 x a b c d, f5 x e f a c d]
    have ly : ∀ x, (x < 109 ∨ 111 < x) → x ≠ 284 → (x < la ∨ la + 78 ≤ x) → L6 x = L x := fun x a b c => by rw [g6 x a (by omega), c5.2 x a b (by omega), g5 x (by omega)]
    have y433 : I9 433 = I 433 := by rw [i9 433 (by omega)]; exact iy 433 (by omega) (by omega) (by omega) (by omega) (by omega) (by omega)
    have y442 : I9 442 = I 442 := by rw [i9 442 (by omega)]; exact iy 442 (by omega) (by omega) (by omega) (by omega) (by omega) (by omega)
    obtain ⟨J2, M2, md, p2, t2, u2, v2, jx, jk, mx, mk⟩ := mbegin_ok (σ := σf) (J := I9) (M := L9) (X := X) (n := n) hX.1 (by rw [y433]; exact hX.2.2.1) (fun i hi => ⟨(hX.2.2.2 i hi).1, by rw [y442]; exact (hX.2.2.2 i hi).2.2⟩)
    rcases run (τ := σf) p2 t2 u2 with ⟨I'', J3, L'', M3, W'', T'', lim'', d1, d2, d3, d4, d5, d6⟩ | ⟨fl', pl', I'', J3, L'', M3, d1, d2, d3, d4, d5, d6⟩
    · have d1 : mX2_readSuit_l26 282 0 (hk σb I5 L5) = some (1, hk σb I'' L'') := d1
      obtain ⟨_, rfl, rfl⟩ := hk_inj (c1.symm.trans d1)
      obtain ⟨I6', L6', fe', clw', _, _⟩ := finish_ok (σ := σb) gb hs d3
      have fi : some ((0 : Int32), hk σb I6 L6) = some ((0 : Int32), hk σb I6' L6') := congrArg (fun o : Option Hp => o.map fun h => ((0 : Int32), h)) (fe.symm.trans fe')
      obtain ⟨_, rfl, rfl⟩ := hk_inj fi
      obtain ⟨dp, hp⟩ := d3.1
      have hW : WT T'' := d3.2.1.wt (by omega) (by have := hp.2.2.2.2.2.2.1; have := hp.1.le.2; omega)
      obtain ⟨J4, M4, b4, m1, b8, b39, b19, b20, b441, bn, bx, bk, bl⟩ := mtail_ok (σ := σf) (M := M3) hp.2.1.2.2 hp.2.2.2.2.1 hW
      have xx : ∀ x, x ≠ 433 → x ≠ 434 → x ≠ 435 → x ≠ 436 → x ≠ 437 → x ≠ 438 → x ≠ 441 → (x < 443 ∨ 447 < x) → J4 x = I9 x ∧ M4 x = L9 x := fun x a b c d e f g h => by
        have := d6.1 x a c e (by omega)
        rw [bx x a b f g h, bl x d, this.1, this.2, jx x a c, mx x a]
        exact ⟨rfl, rfl⟩
      have x285 : ∀ k, k ≠ 4 → k ≠ 2 → J4 285 k = I 285 k := fun k a b => by
        rw [(xx 285 (by omega) (by omega) (by omega) (by omega) (by omega) (by omega) (by omega) (by omega)).1, hI9, rowUp_same, updA_ne _ _ b, updA_ne _ _ a, iy 285 (by omega) (by omega) (by omega) (by omega) (by omega) (by omega)]
      have x285z : J4 285 4 = 0 ∧ J4 285 2 = 0 := by
        rw [(xx 285 (by omega) (by omega) (by omega) (by omega) (by omega) (by omega) (by omega) (by omega)).1, hI9, rowUp_same]
        exact ⟨rfl, rfl⟩
      have xi : ∀ x, x < 433 → x ≠ 285 → J4 x = I6 x := fun x a b => by rw [(xx x (by omega) (by omega) (by omega) (by omega) (by omega) (by omega) (by omega) (by omega)).1, i9 x b]
      have xl : ∀ x, x < 433 → x ≠ 100 → M4 x = L6 x := fun x a b => by rw [(xx x (by omega) (by omega) (by omega) (by omega) (by omega) (by omega) (by omega) (by omega)).2, l9 x b]
      have kk : ∀ x, (x < 100 ∨ x = 107 ∨ x = 421) → J4 x = I x ∧ M4 x = L x := fun x hx => by
        rw [xi x (by omega) (by omega), xl x (by omega) (by omega), iy x (by omega) (by omega) (by omega) (by omega) (by omega) (by omega), ly x (by omega) (by omega) (by omega)]
        exact ⟨rfl, rfl⟩
      have hcs := d3.2.2.1.cst hs d3.2.1.1.2.1
      have hcs2 : CSt J4 s (bgN T'') := hcs.eq fun x a b => by rw [xi x (by omega) (by omega), f6 x (by omega) (by omega) (by omega)]
      refine ⟨I9 la 0, σf, I9, L9, J4, M4, cls, md _ (d2 _ ?_), ⟨gf.2.2.2.2, by rw [i9 1 (by omega), iy 1 (by omega) (by omega) (by omega) (by omega) (by omega) (by omega)]; exact hS1⟩, T'', bgN T'', 0, P, fun _ => false, Q, X, 0, 0, 0, W'', ?_, ?_, ⟨⟨⟨?_, ?_, ?_⟩, hW, (bg_EX hW).1, ?_, ?_⟩, m1, bg_EX hW, ⟨?_, ⟨Nat.zero_le _, ?_, ?_⟩, ⟨b8, fun j hj => absurd hj (Nat.not_lt_zero _)⟩, ⟨?_, fun i _ z => by cases z⟩, fun i hi => ⟨b441 i hi, fun z => by cases z⟩, fun j hj => absurd hj (Nat.not_lt_zero _), fun i _ z => by cases z⟩, ?_, ?_⟩, ⟨Nat.zero_le _, ?_, ?_, fun i hi => absurd hi (Nat.not_lt_zero _)⟩, ⟨Nat.zero_le _, Nat.zero_le _, ?_, b19, fun _ => b20, fun z => absurd rfl z⟩, Or.inl ⟨b39, ?_⟩, ?_, fun w hw => ?_⟩
      · rw [b4, i9 la (by omega), clw'.1.1]
      · unfold SG
        rw [gf.1, gf.2.1, gf.2.2.1, gf.2.2.2.1]
        exact ⟨gb, ga, Ne.symm gne, sb1, sb2, sa1, sa2, Ne.symm sne⟩
      · rw [(kk 1 (by omega)).1]; exact hS1
      · rw [gf.1]; exact gb
      · rw [gf.2.2.1]; exact sb1
      · intro f hf
        rw [(kk 2 (by omega)).2]; exact hO f hf
      · rw [gf.1]
        exact clw'.eq2 gb hW (fun j hj => xi _ (by omega) (by omega)) (fun j hj => xl _ (by omega) (by omega))
      · rw [gf.2.2.1]; exact hcs2
      · rw [gf.2.2.1]; exact sb2
      · exact x285z.1
      · obtain ⟨_, _, top, t1, t2, _⟩ := hB.2.2.2.1.2.1
        exact ⟨top, t1, by rw [x285 3 (by omega) (by omega)]; exact t2, fun j hj => absurd hj (Nat.not_lt_zero _)⟩
      · rw [x285z.2]; rfl
      · intro f hf
        rw [(kk 3 (by omega)).1]; exact hB.2.2.2.2.1 f hf
      · intro f hf
        rw [(kk 421 (by omega)).1]; exact hB.2.2.2.2.2 f hf
      · rw [xi 101 (by omega) (by omega), f6 101 (by omega) (by omega) (by omega), c5.1 101 (by omega) (by omega) (by omega) (by omega), z6]; rfl
      · rw [bk 10 (by omega) (by omega) (by omega) (by omega), d6.2.1 10 (by omega) (by omega), v2]; rfl
      · rw [xi 282 (by omega) (by omega), f6 282 (by omega) (by omega) (by omega)]; exact hp.1.1.2
      · rw [(xx 100 (by omega) (by omega) (by omega) (by omega) (by omega) (by omega) (by omega) (by omega)).2, hL9, rowUp_same, updA_same]
      · rw [gf.1]
        intro f hf
        have w1 := hp.2.2.1.2.2.2.2.1 f hf
        have w2 := hp.2.2.2.1.2.2.2.2.1 f hf
        have t1 := d3.2.1.1.1
        rw [xi (la + 2) (by omega) (by omega), f6 (la + 2) (by omega) (by omega) (by omega), bn f (by omega)]
        exact ⟨w1.1, w1.2, w2.2⟩
      · rw [(kk 107 (by omega)).1]; exact hR w hw
    · have d1 : mX2_readSuit_l26 282 0 (hk σb I5 L5) = some (0, hk σb I'' L'') := d1
      have := (hk_inj (c1.symm.trans d1)).1
      exact absurd this (by decide)
  · have c1 : mX2_readSuit_l26 282 0 (hk σb I5 L5) = some (0, hk σb I' L') := c1
    have iy : ∀ x, x ≠ 282 → x ≠ 108 → (x < la ∨ la + 78 ≤ x) → (x < s ∨ s + 7 ≤ x) → x ≠ 101 → (x < 103 ∨ 106 < x) → I' x = I x := fun x a b c d e f => by rw [c5.1 x a b c d, f5 x e f a c d]
    have ly : ∀ x, (x < 109 ∨ 111 < x) → x ≠ 284 → x ≠ la + 12 → L' x = L x := fun x a b c => by rw [c5.2 x a b c, g5 x c]
    have y433 : I' 433 = I 433 := iy 433 (by omega) (by omega) (by omega) (by omega) (by omega) (by omega)
    have y442 : I' 442 = I 442 := iy 442 (by omega) (by omega) (by omega) (by omega) (by omega) (by omega)
    obtain ⟨J2, M2, md, p2, t2, u2, v2, jx, jk, mx, mk⟩ := mbegin_ok (σ := σb) (J := I') (M := L') (X := X) (n := n) hX.1 (by rw [y433]; exact hX.2.2.1) (fun i hi => ⟨(hX.2.2.2 i hi).1, by rw [y442]; exact (hX.2.2.2 i hi).2.2⟩)
    rcases run (τ := σb) p2 t2 u2 with ⟨I'', J3, L'', M3, W'', T'', lim'', d1, d2, d3, d4, d5, d6⟩ | ⟨fl', pl', I'', J3, L'', M3, d1, d2, d3, d4, d5, d6⟩
    · have d1 : mX2_readSuit_l26 282 0 (hk σb I5 L5) = some (1, hk σb I'' L'') := d1
      have := (hk_inj (c1.symm.trans d1)).1
      exact absurd this (by decide)
    · have d1 : mX2_readSuit_l26 282 0 (hk σb I5 L5) = some (0, hk σb I'' L'') := d1
      obtain ⟨_, rfl, rfl⟩ := hk_inj (c1.symm.trans d1)
      obtain ⟨J4, b4, b19, b20, bx, bk⟩ := mtail_bad (σ := σb) (M := M3) d4
      have xx : ∀ x, x ≠ 433 → x ≠ 435 → x ≠ 437 → x ≠ 443 → J4 x = I' x ∧ M3 x = L' x := fun x a b c d => by
        have := d6.1 x a b c d
        rw [bx x a, this.1, this.2, jx x a b, mx x a]
        exact ⟨rfl, rfl⟩
      have x433 : ∀ k, (k < 10 ∨ 20 < k) → k ≠ 22 → J4 433 k = I 433 k := fun k a b => by rw [bk k (by omega) (by omega), d6.2.1 k (by omega) b, jk k (by omega) b, y433]
      have l433 : ∀ k, k ≠ 21 → M3 433 k = L 433 k := fun k a => by rw [d6.2.2.1 k a, mk k a, ly 433 (by omega) (by omega) (by omega)]
      have kk : ∀ x, Kp (gla σ) (gsa σ) x ∨ x = 107 ∨ x = 100 ∨ x = 436 → J4 x = I x ∧ M3 x = L x := fun x hx => by
        unfold Kp at hx
        obtain ⟨q1, q2⟩ := xx x (by omega) (by omega) (by omega) (by omega)
        rw [q1, q2, iy x (by omega) (by omega) (by omega) (by omega) (by omega) (by omega), ly x (by omega) (by omega) (by omega)]
        exact ⟨rfl, rfl⟩
      refine ⟨-1, σb, I', L', J4, M3, by rw [pre, c1, b2s, if_pos rfl], md _ (d2 _ b4), ⟨by rw [hσb]; rfl, by rw [iy 1 (by omega) (by omega) (by omega) (by omega) (by omega) (by omega)]; exact hS1⟩, T, N, a, P, K, Q, X, 0, fl', pl', W, by rw [hσb]; exact hSG, ?_, hB.su (by rw [hσb]; rfl) (by rw [hσb]; rfl) (fun x hx => kk x (Or.inl hx)) (x433 8 (by omega) (by omega)), ⟨Nat.zero_le _, ?_, ?_, fun i hi => absurd hi (Nat.not_lt_zero _)⟩, ⟨d3.2.1, d3.2.2.1, ?_, b19, fun z => by have := d3.1; omega, fun _ => ⟨?_, b20⟩⟩, ?_, ?_, fun w hw => ?_⟩
      · rw [(kk 1 (by unfold Kp; omega)).1]; exact hS1
      · rw [(xx 101 (by omega) (by omega) (by omega) (by omega)).1, c5.1 101 (by omega) (by omega) (by omega) (by omega), z6]; rfl
      · rw [bk 10 (by omega) (by omega), d6.2.1 10 (by omega) (by omega), v2]; rfl
      · rw [(xx 282 (by omega) (by omega) (by omega) (by omega)).1]; exact d3.2.2.2.1
      · rw [(xx 282 (by omega) (by omega) (by omega) (by omega)).1]; exact d3.2.2.2.2
      · unfold AS
        rw [x433 39 (by omega) (by omega), (kk 100 (by omega)).2, l433 40 (by omega), l433 41 (by omega)]
        exact hA
      · have e : gla σb = gla σ := by rw [hσb]; rfl
        rw [e]
        intro f hf
        rw [(kk (gla σ + 2) (by unfold Kp; omega)).1, (kk 436 (by omega)).2]
        exact hN f hf
      · rw [(kk 107 (by omega)).1]; exact hR w hw
end QSuit
