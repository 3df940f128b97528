/-! ASK, of one fact, the class alone -/
/-- what is asked, in a world -/
def fA (cd : Nat → Nat) (t7 w : Nat) : Bool := (evP (qw w) cd 0 t7).1
section JF
variable {σ σ' : Sg} {I I' J I1 I2 I3 Ja : Nat → Nat → Int32} {L L' L1 L2 : Nat → Nat → Int64} {X : Nat → Nat} {n m i la off t1 t2 t7 dp h0 kk lim s v0 k k' b j w r d0 a g : Nat} {T T' N cd : Nat → Nat} {P : Nat → Nat → Nat} {K : Nat → Bool} {Q : Nat → Nat → Nat} {R R' Rk : List (Nat × Nat)}
theorem sm_and {g : Nat → Nat} {p q : Nat → Bool} : ∀ n, sm g (fun w => p w && q w) n ≤ sm g p n
  | 0 => Nat.le_refl _
  | n + 1 => by
    have := sm_and (g := g) (p := p) (q := q) n
    show sm g (fun w => p w && q w) n + (if (p n && q n) = true then g n else 0) ≤ sm g p n + (if p n = true then g n else 0)
    cases p n <;> cases q n <;> simp <;> omega
theorem hAt_sh {cd ce : Nat → Nat} {a m : Nat} (h : ∀ s, s < m → ce (a + s) = cd s) : ∀ n, n ≤ m → hAt ce a n = hAt cd 0 n := by
  intro n
  induction n with
  | zero => intro _; rfl
  | succ n ih =>
    intro hn
    simp only [hAt]
    rw [ih (by omega), h n (by omega), Nat.zero_add]
theorem runV_sh {q : VP} {cd ce : Nat → Nat} {a m : Nat} (h : ∀ s, s < m → ce (a + s) = cd s) : ∀ n, n ≤ m → runV q ce a n = runV q cd 0 n := by
  intro n
  induction n with
  | zero => intro _; rfl
  | succ n ih =>
    intro hn
    simp only [runV]
    rw [ih (by omega), h n (by omega), Nat.zero_add]
theorem CLw.eq3 (hla : isLa la) (hW : WT T) (h6 : CLw I L la T) (hn : ∀ j, j < 78 → j ≠ 7 → I' (la + j) = I (la + j)) (h7 : ∀ i, i < T 7 → I' (la + 7) i = I (la + 7) i) (hl : ∀ j, j < 78 → L' (la + j) = L (la + j)) : CLw I' L' la T := by
  have c := h6.eq2 (I' := rowUp I' (la + 7) (I (la + 7))) (L' := L') hla hW (fun j hj => by
    by_cases q : j = 7
    · rw [q, rowUp_same]
    · rw [rowUp_ne _ _ (by omega)]; exact hn j hj q) hl
  obtain ⟨b1, b2, b3, b4, b5, b6, b7⟩ := c
  rw [rowUp_ne (a := la + 7) (b := la) _ _ (by omega)] at b1
  refine ⟨b1, fun i hi => ?_, fun k hk' => ?_, fun p hp => ?_, fun i hi => ?_, fun i hi => ?_, b7⟩
  · have := b2 i hi
    rw [rowUp_ne _ _ (by omega)] at this; exact this
  · have := b3 k hk'
    rw [rowUp_ne (a := la + 7) (b := la + 3) _ _ (by omega), rowUp_ne (a := la + 7) (b := la + 6) _ _ (by omega), rowUp_ne (a := la + 7) (b := la + 8) _ _ (by omega), rowUp_ne (a := la + 7) (b := la + 9) _ _ (by omega)] at this
    exact this
  · have := b4 p hp
    rw [rowUp_ne (a := la + 7) (b := la + 4) _ _ (by omega), rowUp_ne (a := la + 7) (b := la + 8) _ _ (by omega), rowUp_ne (a := la + 7) (b := la + 9) _ _ (by omega)] at this
    exact this
  · have := b5 i hi
    rw [rowUp_same] at this
    rw [h7 i hi]; exact this
  · have := b6 i hi
    rw [rowUp_ne _ _ (by omega)] at this; exact this
theorem cask_ok (h : CR σ I L T N) (hc : ∀ j, j < t7 → I (gla σ + 7) (T 7 + j) = nI (cc (cd j))) (hw : wfE cd 0 t7) (hb : T 7 + t7 ≤ 960) :
    ∃ hh L2, ((mX11_remember 100 (hk σ I L)).bind fun h18 => (gR 11 2 100 h18).bind fun v19 => (gR 11 3 100 h18).bind fun v20 => (gR 1 12 v20 h18).bind fun v21 => (gR 11 11 100 h18).bind fun v22 => (mX4_tabulate v19 v21 (nI (T 7)) (nI (T 7 + t7)) v22 h18).bind fun h24 => (gR 11 9 100 h24).bind fun v25 => (gR 11 11 100 h24).bind fun v26 => (mX10_howIn v25 v26 h24).bind fun v27 => (gR 11 3 100 h24).bind fun v29 => (gR 11 9 100 h24).bind fun v30 => (mX1_weigh v29 v30 h24).bind fun v31 => (gR 11 9 100 h24).bind fun v33 => (gR 11 11 100 h24).bind fun v34 => (mX10_and v33 v34 h24).bind fun h36 => (gR 11 3 100 h36).bind fun v37 => (gR 11 9 100 h36).bind fun v38 => (mX1_weigh v37 v38 h36).bind fun v39 => (mX11_inLowestTerms v39 v31 (0 : Int32)).bind fun v41 => (sL 11 16 100 v41 h36).bind fun h43 => (mX11_inLowestTerms v39 v31 (1 : Int32)).bind fun v44 => (sL 11 17 100 v44 h43).bind fun h46 => some (v27, h46)) = some (how3 (lft T N) (fA cd t7), hk σ (rowUp I 108 hh) L2) ∧
      L2 100 16 = lN (sm (wg T) (fun w => lft T N w && fA cd t7 w) 256 / Nat.gcd (sm (wg T) (lft T N) 256) (sm (wg T) (fun w => lft T N w && fA cd t7 w) 256)) ∧ L2 100 17 = lN (sm (wg T) (lft T N) 256 / Nat.gcd (sm (wg T) (lft T N) 256) (sm (wg T) (fun w => lft T N w && fA cd t7 w) 256)) ∧ (∀ x, x ≠ 100 → (x < 108 ∨ 111 < x) → x ≠ 415 → x ≠ 419 → L2 x = L x) := by
  have hla := h.1.1
  have hga' : gla σ = 112 ∨ gla σ = 190 := hla
  have hW := h.2.1
  obtain ⟨r, e1, hr⟩ := remember_ok h
  have h2 : CR σ I (rowUp L 415 r) T N := h.upL (by omega)
  have sh : ∀ s, s < t7 → (fun s => cd (s - T 7)) (T 7 + s) = cd s := fun s _ => by show cd (T 7 + s - T 7) = cd s; rw [Nat.add_sub_cancel_left]
  have sub : T 7 + t7 - T 7 = t7 := Nat.add_sub_cancel_left _ _
  obtain ⟨hh, y, n', z, r2, te, tr⟩ := tab_ok (σ := σ) (I := I) (L := rowUp L 415 r) h2.1.2.2 (gla σ + 7) (SH_la7 hla) (by omega) (fun s => cd (s - T 7)) (T 7) (T 7 + t7) (by omega) hb (fun s hs => by
    rw [sub] at hs
    rw [Nat.add_sub_cancel_left, hAt_sh sh s (by omega)]
    have := hw.2.1 s (by omega)
    rw [Nat.zero_add] at this
    exact this) (fun j h1 h2 => by
    have := hc (j - T 7) (by omega)
    rw [show T 7 + (j - T 7) = j by omega] at this
    exact this) 418 419 (fun _ _ => wSpr) (by omega) (by omega) (by omega) (by omega)
  have tr : Rw r2 (fA cd t7) := by
    have := tr (by rw [sub, hAt_sh sh t7 (Nat.le_refl _)]; have := hw.2.2; rw [Nat.sub_zero] at this; rw [this]; exact Nat.le_refl _)
    refine this.cg fun w _ => ?_
    unfold fA evP
    rw [sub, runV_sh sh t7 (Nat.le_refl _), Nat.sub_zero]
  obtain ⟨I5, hI5⟩ : ∃ I5, I5 = rowUp I 108 hh := ⟨_, rfl⟩
  obtain ⟨L5, hL5⟩ : ∃ L5, L5 = rowUp (rowUp (rowUp (rowUp (rowUp L 415 r) 419 r2) 109 y) 110 n') 111 z := ⟨_, rfl⟩
  have te : mX4_tabulate 108 (gla σ + 7) (nI (T 7)) (nI (T 7 + t7)) 418 (hk σ I (rowUp L 415 r)) = some (hk σ I5 L5) := by rw [hI5, hL5]; exact te
  have fr : FrC I L I5 L5 := by
    rw [hI5, hL5]
    exact (((((FrC.rf.upI hh (by unfold scC; omega)).upL r (by unfold scC; omega)).upL r2 (by unfold scC; omega)).upL y (by unfold scC; omega)).upL n' (by unfold scC; omega)).upL z (by unfold scC; omega)
  have h5 : CR σ I5 L5 T N := h.fr fr
  have l415 : L5 415 = r := by rw [hL5, rowUp_ne _ _ (by omega), rowUp_ne _ _ (by omega), rowUp_ne _ _ (by omega), rowUp_ne _ _ (by omega), rowUp_same]
  have l419 : L5 419 = r2 := by rw [hL5, rowUp_ne _ _ (by omega), rowUp_ne _ _ (by omega), rowUp_ne _ _ (by omega), rowUp_same]
  have hi := howIn_ok (h := hk σ I5 L5) (f := lft T N) (g := fA cd t7) (wLeft (σ := σ) (I := I5) (L := L5)) (wSpr (σ := σ) (I := I5) (L := L5)) (by show Rw (L5 415) _; rw [l415]; exact hr) (by show Rw (L5 419) _; rw [l419]; exact tr)
  obtain ⟨r3, ae, ar⟩ := and_ok (h := hk σ I5 L5) (f := lft T N) (g := fA cd t7) (wLeft (σ := σ) (I := I5) (L := L5)) (wSpr (σ := σ) (I := I5) (L := L5)) (by omega) (by show Rw (L5 415) _; rw [l415]; exact hr) (by show Rw (L5 419) _; rw [l419]; exact tr)
  rw [setL_hk] at ae
  have h6 : CR σ I5 (rowUp L5 415 r3) T N := h5.upL (by omega)
  have b1 := sm_b hW (lft T N) (n := 256) (Nat.le_refl _)
  have b2 := sm_b hW (fun w => lft T N w && fA cd t7 w) (n := 256) (Nat.le_refl _)
  have g1 : ∀ x, mX11_inLowestTerms (lN (sm (wg T) (fun w => lft T N w && fA cd t7 w) 256)) (lN (sm (wg T) (lft T N) 256)) x = _ := fun x => c_low (p := sm (wg T) (fun w => lft T N w && fA cd t7 w) 256) (w := sm (wg T) (lft T N) 256) (by omega) (all_pos hW h.2.2.1) (by omega) x
  refine ⟨hh, rowUp (rowUp L5 415 r3) 100 (updA (updA (L5 100) 16 (lN (sm (wg T) (fun w => lft T N w && fA cd t7 w) 256 / Nat.gcd (sm (wg T) (lft T N) 256) (sm (wg T) (fun w => lft T N w && fA cd t7 w) 256)))) 17 (lN (sm (wg T) (lft T N) 256 / Nat.gcd (sm (wg T) (lft T N) 256) (sm (wg T) (fun w => lft T N w && fA cd t7 w) 256)))), ?_, ?_, ?_, fun x a b c d => ?_⟩
  · rw [e1, obind, show gR 11 2 100 (hk σ I (rowUp L 415 r)) = some 108 from rfl, obind, gLa, gR_la hla, obind, RF_la_12 σ hla, gSpr, te, obind, gLeft, gSpr, hi, obind, gLa, gLeft, weigh_ok h5 (wLeft (σ := σ) (I := I5) (L := L5)) (by rw [l415]; exact hr), obind, gLeft, gSpr, ae, obind, gLa, gLeft, weigh_ok h6 (wLeft (σ := σ) (I := I5) (L := rowUp L5 415 r3)) (by rw [rowUp_same]; exact ar), obind, g1, if_pos rfl, obind, sL_ok s100, obind, setL_hk, hpL_hk'', rowUp_ne (a := 415) (b := 100) _ _ (by omega), g1, if_neg (by decide), obind, sL_ok s100, obind, setL_hk, hpL_hk'', rowUp_two, rowUp_same, hI5]
  · rw [rowUp_same, updA_ne _ _ (by omega), updA_same]
  · rw [rowUp_same, updA_same]
  · rw [rowUp_ne _ _ a, rowUp_ne _ _ c, hL5, rowUp_ne _ _ (by omega), rowUp_ne _ _ (by omega), rowUp_ne _ _ (by omega), rowUp_ne _ _ d, rowUp_ne _ _ c]
theorem CB.ex3 (h : CB σ I L T N a P K Q) (hg : gla σ' = gla σ) (hs : gsa σ' = gsa σ) (f : ∀ x, ((112 ≤ x ∧ x < 282) ∨ (285 ≤ x ∧ x < 414) ∨ x = 421) → x ≠ gla σ + 7 → I' x = I x) (fl : ∀ x, ((112 ≤ x ∧ x < 282) ∨ (285 ≤ x ∧ x < 414) ∨ x = 421) → L' x = L x) (f7 : ∀ i, i < T 7 → I' (gla σ + 7) i = I (gla σ + 7) i) (f2 : L' 2 = L 2) : CB σ' I' L' T N a P K Q := by
  obtain ⟨⟨⟨h1, h2, h3⟩, h4, h5, h6, h7⟩, hE, ⟨p1, p2, p4, p6, p7⟩, hT⟩ := h
  have h2' : gsa σ = 268 ∨ gsa σ = 275 := by unfold isSt at h2; omega
  have h1' : gla σ = 112 ∨ gla σ = 190 := h1
  refine ⟨⟨⟨by rw [hg]; exact h1, by rw [hs]; exact h2, fun k hk' => by rw [f2]; exact h3 k hk'⟩, h4, h5, by rw [hg]; exact h6.eq3 h1 h4 (fun j hj h7 => f _ (by omega) (by omega)) f7 (fun j hj => fl _ (by omega)), by rw [hs]; exact h7.eq fun x a b => f x (by omega) (by omega)⟩, hE,
    ⟨by rw [hs]; exact p1, p2.fr (by rw [f 285 (by omega) (by omega)]) (by rw [f 285 (by omega) (by omega)]) (fun x a b => f x (by omega) (by omega)), p4.fr (by rw [f 285 (by omega) (by omega)]) (fun x a b => f x (by omega) (by omega)), p6, p7⟩,
    fun k hk' => by rw [f 421 (by omega) (by omega)]; exact hT k hk'⟩
/-- the class's question, once it is read -/
noncomputable def cRest (t0 t1 : Int32) (h : Hp) : Option (Int32 × Hp) := (mX11_remember 100 h).bind fun h18 => (gR 11 2 100 h18).bind fun v19 => (gR 11 3 100 h18).bind fun v20 => (gR 1 12 v20 h18).bind fun v21 => (gR 11 11 100 h18).bind fun v22 => (mX4_tabulate v19 v21 t0 t1 v22 h18).bind fun h24 => (gR 11 9 100 h24).bind fun v25 => (gR 11 11 100 h24).bind fun v26 => (mX10_howIn v25 v26 h24).bind fun v27 => (gR 11 3 100 h24).bind fun v29 => (gR 11 9 100 h24).bind fun v30 => (mX1_weigh v29 v30 h24).bind fun v31 => (gR 11 9 100 h24).bind fun v33 => (gR 11 11 100 h24).bind fun v34 => (mX10_and v33 v34 h24).bind fun h36 => (gR 11 3 100 h36).bind fun v37 => (gR 11 9 100 h36).bind fun v38 => (mX1_weigh v37 v38 h36).bind fun v39 => (mX11_inLowestTerms v39 v31 (0 : Int32)).bind fun v41 => (sL 11 16 100 v41 h36).bind fun h43 => (mX11_inLowestTerms v39 v31 (1 : Int32)).bind fun v44 => (sL 11 17 100 v44 h43).bind fun h46 => some (v27, h46)
/-- how much is so -/
def fW (T N : Nat → Nat) (f : Nat) (b : Bool) : Nat := sm (wg T) (fun w => lft T N w && (w.testBit f == b)) 256
/-- ask -/
theorem c_ask {f : Nat} (hB : CB σ I L T N a P K Q) (kx : KX σ I T) (tc : TC I (fun i => [97 + f].getD i 0) 1) (hf : f < T 1) :
    ∃ σa I' L', mX11_ask 100 (hk σ I L) = some (how3 (lft T N) (fun w => w.testBit f), hk σa I' L') ∧ gN σa = gN σ ∧ CB σa I' L' T N a P K Q ∧ KX σa I' T ∧ TC I' (fun _ => 0) 0 ∧ L' 100 16 = lN (fW T N f true / Nat.gcd (aW T N) (fW T N f true)) ∧ L' 100 17 = lN (aW T N / Nat.gcd (aW T N) (fW T N f true)) ∧ (∀ x, (x < 100 ∨ 433 ≤ x) → I' x = I x ∧ L' x = L x) := by
  obtain ⟨hSG, hR, hN1, hN2⟩ := kx
  obtain ⟨ga, gb, gne, sa1, sa2, sb1, sb2, sne⟩ := id hSG
  obtain ⟨la, hlb⟩ : ∃ la, la = gla σ := ⟨_, rfl⟩
  rw [← hlb] at ga gne hN1 hN2
  have hsa : gsa σ = 268 ∨ gsa σ = 275 := by unfold isSt at sa1; omega
  have hla' : la = 112 ∨ la = 190 := ga
  have hW : WT T := hB.1.2.1
  have h7 := hW.1.2.2.2.2.2.2.2
  have h1 := hW.1.2.1
  have hCL : CLw I L la T := by rw [hlb]; exact hB.1.2.2.2.1
  have hO : SOk L := hB.1.1.2.2
  obtain ⟨X, hX⟩ : ∃ X : Nat → Nat, X = fun i => [97 + f].getD i 0 := ⟨_, rfl⟩
  rw [← hX] at tc
  obtain ⟨m, I1, se, hm, hTK, hpz, hlt, hTF⟩ := split_ok (σ := σ) (L := L) (X := X) (n := 1) tc hR
  have i1 : ∀ x, (x < 103 ∨ 106 < x) → I1 x = I x := fun x hx => by
    by_cases q : x = 107
    · rw [q]; exact hTF.1
    · exact hTF.2 x (by omega)
  obtain ⟨I3, hI3⟩ : ∃ I3, I3 = rowUp (rowUp I1 101 (updA (I1 101) 1 0)) 282 (updA (updA (I1 282) 5 0) 7 0) := ⟨_, rfl⟩
  have i3' : ∀ x, x ≠ 101 → x ≠ 282 → I3 x = I1 x := fun x a b => by rw [hI3, rowUp_ne _ _ b, rowUp_ne _ _ a]
  have i3 : ∀ x, x ≠ 101 → x ≠ 282 → (x < 103 ∨ 106 < x) → I3 x = I x := fun x a b c => by rw [i3' x a b, i1 x c]
  have i101 : I3 101 1 = 0 := by rw [hI3, rowUp_ne _ _ (by omega), rowUp_same, updA_same]
  have i282 : I3 282 5 = nI 0 ∧ I3 282 7 = 0 := by rw [hI3, rowUp_same]; exact ⟨rfl, rfl⟩
  have pc : PCk I3 X 1 m 0 := ⟨⟨by omega, i282.2⟩, hm, ⟨by rw [i3' 103 (by omega) (by omega)]; exact hTK.1, fun j hj => by rw [i3' 104 (by omega) (by omega), i3' 105 (by omega) (by omega), i3' 106 (by omega) (by omega)]; exact hTK.2 j hj⟩, hpz, hlt, i282.1, Nat.zero_le _⟩
  have l13 : I3 la 13 = nI (T 7) := by rw [i3 la (by omega) (by omega) (by omega)]; exact hCL.1.2.2.2.2.2
  obtain ⟨σa, hσa⟩ : ∃ σa, σa = sgl σ la := ⟨_, rfl⟩
  have bg : gpl σa = la := by rw [hσa]; rfl
  have gf : gla σa = la ∧ glb σa = glb σ ∧ gsa σa = gsa σ ∧ gsb σa = gsb σ ∧ gN σa = gN σ := by rw [hσa, hlb]; exact ⟨rfl, rfl, rfl, rfl, rfl⟩
  have e3 : ∀ I L, gR 11 3 100 (hk σa I L) = some la := fun I L => by rw [hσa, hlb]; rfl
  have pre : mX11_ask 100 (hk σ I L) = b2 (b2 (mX2_readEither 40 282 (0 : Int32) (hk σa I3 L)) fun v3 h4 => if v3 = 0 then (some ((0 : Int32), h4)) else (b2 (mX2_expect 282 (0 : Int32) h4) fun v5 h6 => if v5 = 0 then (some ((0 : Int32), h6)) else (some ((1 : Int32), h6)))) fun v11 h12 => (gR 11 3 100 h12).bind fun v13 => (gI 1 13 v13 h12).bind fun v14 => (gR 11 3 100 h12).bind fun v15 => (sI 1 13 v15 (nI (T 7)) h12).bind fun h16 => if v11 = 0 then (some ((-1 : Int32), h16)) else cRest (nI (T 7)) v14 h16 := by
    have l13' : (rowUp I1 101 (updA (I1 101) 1 0)) la 13 = nI (T 7) := by rw [rowUp_ne _ _ (by omega), i1 la (by omega)]; exact hCL.1.2.2.2.2.2
    unfold mX11_ask mX2_readQuestion mX2_begin cRest
    rw [if_pos s100, show gR 11 1 100 (hk σ I L) = some 103 from rfl, obind, gTxt, se, obind, gTxt, sI_ok s101, obind, setI_hk, hpI_hk', gLa, ← hlb, gI_la ga, obind, l13', gPar, gLa, ← hlb, if_pos s282, if_pos s282, sR_l, obind, sI_ok s282, obind, setI_hk, hpI_hk', rowUp_ne (a := 101) (b := 282) _ _ (by omega), sI_ok s282, obind, setI_hk, hpI_hk', rowUp_two, rowUp_same, obind, ← hI3, ← hσa]
  -- its tokens
  have tz : Tz [97 + f] [(2, f + 1)] := by
    have := Tp.fact (f := f) (by omega) [] [] (by decide) Tz.nil
    rw [List.append_nil, List.append_nil] at this
    exact this
  have ts : TS X 1 m 0 [(2, f + 1)] := tz X 1 m 0 0 (fun j hj => by rw [Nat.zero_add, hX]) rfl rfl (Nat.zero_le _) pc.2.2.2.1 pc.2.2.2.2.1
  have pe : PE I3 X 1 m la (T 7) (T 1) (T 2) (fun _ => 0) 0 (kA 0 (lfT 0 f) ++ []) := ⟨pc, ts, ⟨h1, hW.1.2.2.1, by rw [i3 la (by omega) (by omega) (by omega)]; exact hCL.1.2.1, by rw [i3 la (by omega) (by omega) (by omega)]; exact hCL.1.2.2.1, fun g hg => by rw [i3 (la + 2) (by omega) (by omega) (by omega)]; exact hN1 g hg, fun k hk' => by rw [i3 (la + 2) (by omega) (by omega) (by omega)]; exact hN2 k hk'⟩, ⟨l13, fun j hj => absurd hj (Nat.not_lt_zero _)⟩, Nat.le_refl _⟩
  obtain ⟨I', T', e1, p, _, _, _, _, rg, smv, fr⟩ := expr_ok (σ := σa) (L := L) ga bg h7 h1 (by omega) (show okT (T 1) 0 (lfT 0 f) from hf) pe (by decide) (by show (0 : Nat) ≤ 32; omega)
  have i480 := p.1.le.2
  have t7i := p.2.2.2.2
  have nk : mX2_nextKind 282 (hk σa I' L) = some (nI 0) := at_kind p.1 p.2.1
  obtain ⟨I2, hI2⟩ : ∃ I2, I2 = rowUp I' 282 (updA (I' 282) 5 (nI (1 + 1))) := ⟨_, rfl⟩
  obtain ⟨I4, hI4⟩ : ∃ I4, I4 = rowUp I2 la (updA (I2 la) 13 (nI (T 7))) := ⟨_, rfl⟩
  have i2 : ∀ x, x ≠ 282 → I2 x = I' x := fun x hx => by rw [hI2, rowUp_ne _ _ hx]
  have iy : ∀ x, x ≠ 282 → x ≠ la → x ≠ la + 7 → x ≠ 101 → (x < 103 ∨ 106 < x) → I' x = I x := fun x a b c d e => by rw [fr.1 x a b c, i3 x d a e]
  have ik : ∀ k, k ≠ 13 → I' la k = I la k := fun k hk' => by rw [fr.2.1 k hk', i3 la (by omega) (by omega) (by omega)]
  have ij : ∀ j, j < T 7 → I' (la + 7) j = I (la + 7) j := fun j hj => by
    obtain ⟨b, _, _, _, g⟩ := fr.2.2 (T 7) (by omega) l13
    rw [g j hj, i3 (la + 7) (by omega) (by omega) (by omega)]
  have i4 : ∀ x, x ≠ 282 → x ≠ la + 7 → x ≠ 101 → (x < 103 ∨ 106 < x) → I4 x = I x := fun x a b c d => by
    by_cases q : x = la
    · rw [q, hI4, rowUp_same]
      funext k
      rw [updA_at]
      by_cases q2 : k = 13
      · rw [if_pos q2, q2]; exact hCL.1.2.2.2.2.2.symm
      · rw [if_neg q2, i2 la (by omega)]; exact ik k q2
    · rw [hI4, rowUp_ne _ _ q, i2 x a]; exact iy x a q b c d
  have i47 : I4 (la + 7) = I' (la + 7) := by rw [hI4, rowUp_ne _ _ (by omega), i2 _ (by omega)]
  have hB4 : CB σa I4 L T N a P K Q := hB.ex3 (by rw [gf.1, hlb]) gf.2.2.1 (fun x hx h => by
    rw [← hlb] at h
    exact i4 x (by omega) (by omega) (by omega) (by omega)) (fun x _ => rfl) (by
    rw [← hlb]
    intro j hj
    rw [i47]; exact ij j hj) rfl
  have z13 : I' la 13 = nI (T 7 + T' 7) := p.2.2.2.1.1
  have cls0 : mX11_ask 100 (hk σ I L) = cRest (nI (T 7)) (nI (T 7 + T' 7)) (hk σa I4 L) := by
    have p5 : I' 282 5 = nI 1 := p.1.2.2.2.2.2.1
    have ex : mX2_expect 282 (0 : Int32) (hk σa I' L) = some (1, hk σa I2 L) := by
      unfold mX2_expect
      rw [if_pos s282, nk, obind, if_pos (show nI 0 = (0 : Int32) from rfl), gPI, obind, p5, sI_ok s282, obind, setI_hk, hpI_hk', nI_1, ← hI2]
    rw [pre, e1, b2s, if_neg (show ¬ (1 : Int32) = 0 by decide), ex, b2s, if_neg (show ¬ (1 : Int32) = 0 by decide), b2s, e3, obind, gI_la ga, obind, obind, sI_la ga, obind, if_neg (show ¬ (1 : Int32) = 0 by decide), ← hI4, i2 la (by omega), z13]
  obtain ⟨hh, L2, ce, l16, l17, lf⟩ := cask_ok (σ := σa) (I := I4) (L := L) (t7 := T' 7) (cd := cT T') hB4.1 (fun j hj => by
    rw [gf.1, i47]
    exact p.2.2.2.1.2 j hj) rg.wf (by omega)
  have ef : fA (cT T') (T' 7) = fun w => w.testBit f := by
    funext w
    unfold fA
    exact smv.ev w
  rw [ef] at ce l16 l17
  obtain ⟨I5, hI5⟩ : ∃ I5, I5 = rowUp I4 108 hh := ⟨_, rfl⟩
  have i5 : ∀ x, x ≠ 282 → x ≠ la + 7 → x ≠ 101 → x ≠ 108 → (x < 103 ∨ 106 < x) → I5 x = I x := fun x a b c d e => by rw [hI5, rowUp_ne _ _ d, i4 x a b c e]
  have eW : fW T N f true = sm (wg T) (fun w => lft T N w && w.testBit f) 256 := sm_same fun w _ => ⟨by cases w.testBit f <;> simp, fun _ => rfl⟩
  refine ⟨σa, I5, L2, by rw [cls0, hI5]; exact ce, gf.2.2.2.2, hB4.ex3 rfl rfl (fun x hx h => by rw [hI5, rowUp_ne _ _ (by omega)]) (fun x hx => lf x (by omega) (by omega) (by omega) (by omega)) (fun j hj => by rw [gf.1, hI5, rowUp_ne _ _ (by omega)]) (lf 2 (by omega) (by omega) (by omega) (by omega)), ⟨?_, fun w hw => ?_, fun g hg => ?_, fun k hk' => ?_⟩, ⟨Nat.zero_le _, ?_, fun i hi => absurd hi (Nat.not_lt_zero _)⟩, by rw [eW]; exact l16, by rw [eW]; exact l17, fun x hx => ⟨i5 x (by omega) (by omega) (by omega) (by omega) (by omega), lf x (by omega) (by omega) (by omega) (by omega)⟩⟩
  · unfold SG
    rw [gf.1, gf.2.1, gf.2.2.1, gf.2.2.2.1]
    exact ⟨ga, gb, gne, sa1, sa2, sb1, sb2, sne⟩
  · rw [i5 107 (by omega) (by omega) (by omega) (by omega) (by omega)]; exact hR w hw
  · rw [gf.1, i5 (la + 2) (by omega) (by omega) (by omega) (by omega) (by omega)]; exact hN1 g hg
  · rw [gf.1, i5 (la + 2) (by omega) (by omega) (by omega) (by omega) (by omega)]; exact hN2 k hk'
  · rw [hI5, rowUp_ne _ _ (by omega), hI4, rowUp_ne _ _ (by omega), i2 101 (by omega), fr.1 101 (by omega) (by omega) (by omega), i101]; rfl
theorem c_asked {u v : Nat} (h17 : L 100 17 = lN v) (h16 : L 100 16 = lN u) (hv : 0 < v) (hv2 : v < 2 ^ 62) : mX11_asked 100 0 (hk σ I L) = some (nI u) ∧ mX11_asked 100 1 (hk σ I L) = some (nI v) := by
  have z : ¬ lg_cmp (lN v) 0 = 0 := by rw [lN_0 hv2]; omega
  constructor
  · unfold mX11_asked mX11_asked_b35
    rw [if_pos s100, if_neg (by decide), if_neg (by decide), gL_ok s100, obind, hpL_hk'', h17, if_neg z, if_pos rfl, gL_ok s100, obind, hpL_hk'', h16, lN_i]
  · unfold mX11_asked mX11_asked_b35
    rw [if_pos s100, if_neg (by decide), if_neg (by decide), gL_ok s100, obind, hpL_hk'', h17, if_neg z, if_neg (by decide), obind, lN_i]
end JF
