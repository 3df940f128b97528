/-! SUIT, the class alone -/
/-- what a call of the class speaks of beside its rules: which law and state is which, reserved words, names of facts -/
def KX (σ : Sg) (I : Nat → Nat → Int32) (T : Nat → Nat) : Prop := SG σ ∧ RS I ∧ (∀ f, f < T 1 → I (gla σ + 2) f = nI (f + 1)) ∧ ∀ k, k < T 2 → I (gla σ + 2) (8 + k) = nI (97 + k)
section I2
variable {σ σ' : Sg} {I I' J I1 I2 I3 Ja : Nat → Nat → Int32} {L L' L1 L2 : Nat → Nat → Int64} {X : Nat → Nat} {n m i la off t1 t2 dp h0 kk lim s v0 k k' b j w r d0 a : Nat} {T T' N : Nat → Nat} {P : Nat → Nat → Nat} {K : Nat → Bool} {Q : Nat → Nat → Nat} {R R' Rk : List (Nat × Nat)} {v v' v1 v2 : Vt} {t : List Nat}
theorem KX.fr (h : KX σ I T) (f : ∀ x, x = 107 ∨ x = 114 ∨ x = 192 → I' x = I x) : KX σ I' T := by
  obtain ⟨h1, h2, h3⟩ := h
  have hla := h1.1
  refine ⟨h1, fun w hw => by rw [f 107 (by omega)]; exact h2 w hw, ?_⟩
  rw [f (gla σ + 2) (by rcases hla with e | e <;> rw [e] <;> omega)]
  exact h3
/-- suit, of lines that can be read -/
theorem c_suit (hSG : SG σ) (hR : RS I) (hB : CB σ I L T N a P K Q) (hX : TC I (fun i => t.getD i 0) t.length) (hz : Tz t R) (hls : ∀ m, LSq (sgs (sgl σ (glb σ)) (gsb σ)) (fun i => t.getD i 0) t.length m (glb σ) (gsb σ) k R v00 v) :
    ∃ σ' I' L' T', mX11_suit 100 (hk σ I L) = some (nI k, hk σ' I' L') ∧ gN σ' = gN σ ∧ CB σ' I' L' T' (bgN T') 0 P (fun _ => false) Q ∧ KX σ' I' T' ∧ TC I' (fun _ => 0) 0 ∧ I' 282 7 = 0 ∧ L' 100 17 = 0 ∧ T' 1 = v.1 ∧ T' 2 = v.2.1 ∧ (∀ x, (x < 100 ∨ 433 ≤ x) → I' x = I x ∧ L' x = L x) := by
  obtain ⟨ga, gb, gne, sa1, sa2, sb1, sb2, sne⟩ := id hSG
  obtain ⟨la, hlb⟩ : ∃ la, la = glb σ := ⟨_, rfl⟩
  obtain ⟨s, hsb⟩ : ∃ s, s = gsb σ := ⟨_, rfl⟩
  rw [← hlb] at gb gne
  rw [← hsb] at sb1 sb2 sne
  rw [← hlb, ← hsb] at hls
  have hs : s = 268 ∨ s = 275 := by unfold isSt at sb1; omega
  have hsa : gsa σ = 268 ∨ gsa σ = 275 := by unfold isSt at sa1; omega
  have hla' : la = 112 ∨ la = 190 := gb
  have hga' : gla σ = 112 ∨ gla σ = 190 := ga
  have hO : SOk L := hB.1.1.2.2
  obtain ⟨m, I1, I5, L5, se, re, pc, z1, z2, z3, z4, z5, z6, hO5, f5, g5⟩ := cpre_ok (σ := σ) hX hR gb hs hO
  obtain ⟨σb, hσb⟩ : ∃ σb, σb = sgs (sgl σ la) s := ⟨_, rfl⟩
  rw [← hσb] at re hls
  have bg : gpl σb = la := by rw [hσb]; rfl
  have bs : gps σb = s := by rw [hσb]; rfl
  have pre : mX11_suit 100 (hk σ I L) = b2 (mX2_readSuit_l26 282 0 (hk σb I5 L5)) fun v10 h11 => if v10 = 0 then (some ((-1 : Int32), h11)) else ((gR 11 4 100 h11).bind fun v12 => (gR 11 2 100 h11).bind fun v13 => (mX1_finish v12 v13 h11).bind fun h15 => (gR 11 4 100 h15).bind fun v16 => (gR 11 3 100 h15).bind fun v17 => (sR 11 4 100 v17 h15).bind fun h18 => (sR 11 3 100 v16 h18).bind fun h19 => (gR 11 6 100 h19).bind fun v20 => (gR 11 5 100 h19).bind fun v21 => (sR 11 6 100 v21 h19).bind fun h22 => (sR 11 5 100 v20 h22).bind fun h23 => (gR 11 8 100 h23).bind fun v24 => (mX0_forget v24 h23).bind fun h26 => (sL 11 17 100 (0 : Int64) h26).bind fun h27 => (gR 11 3 100 h27).bind fun v28 => (gI 1 0 v28 h27).bind fun v29 => some (v29, h27)) := by
    unfold mX11_suit
    rw [if_pos s100, show gR 11 1 100 (hk σ I L) = some 103 from rfl, obind, gTxt, se, obind, gTxt, sI_ok s101, obind, setI_hk, hpI_hk', gPar, show gR 11 4 100 (hk σ (rowUp I1 101 (updA (I1 101) 1 0)) L) = some (glb σ) from rfl, obind, show gR 11 6 100 (hk σ (rowUp I1 101 (updA (I1 101) 1 0)) L) = some (gsb σ) from rfl, obind, ← hlb, ← hsb, re]
  have ts : TS (fun i => t.getD i 0) t.length m 0 R := hz (fun i => t.getD i 0) t.length m 0 0 (fun j hj => by rw [Nat.zero_add]) (Nat.zero_add _) rfl (Nat.zero_le _) pc.2.2.2.1 pc.2.2.2.2.1
  have ts' : TS (fun i => t.getD i 0) t.length m 0 (R ++ []) := by rw [List.append_nil]; exact ts
  obtain ⟨I', L', T', lim', c1, c3, cv, c0, c5⟩ := (hls m).2 (sv0_ok gb hs pc ts' hO5 z1 z2 z3 z4 z5) vw0 (Nat.le_refl _)
  have c0 : T' 0 = k := by rw [c0]; show 0 + k = k; omega
  have c1 : mX2_readSuit_l26 282 0 (hk σb I5 L5) = some (1, hk σb I' L') := c1.trans (loop_end c3)
  obtain ⟨I6, L6, fe, clw, f6, g6⟩ := finish_ok (σ := σb) gb hs c3
  obtain ⟨σm, hσm⟩ : ∃ σm, σm = sga (sgb σb (gla σ)) la := ⟨_, rfl⟩
  obtain ⟨σf, hσf⟩ : ∃ σf, σf = sgc (sgd σm (gsa σ)) s := ⟨_, rfl⟩
  obtain ⟨I9, hI9⟩ : ∃ I9, I9 = rowUp I6 285 (updA (updA (I6 285) 4 0) 2 0) := ⟨_, rfl⟩
  obtain ⟨L9, hL9⟩ : ∃ L9, L9 = rowUp L6 100 (updA (L6 100) 17 0) := ⟨_, rfl⟩
  have e4 : ∀ I L, gR 11 4 100 (hk σb I L) = some la := fun I L => by rw [hσb, hlb]; rfl
  have e3 : ∀ I L, gR 11 3 100 (hk σb I L) = some (gla σ) := fun I L => by rw [hσb]; rfl
  have e2 : ∀ I L, gR 11 2 100 (hk σb I L) = some 108 := fun I L => rfl
  have e6 : ∀ I L, gR 11 6 100 (hk σm I L) = some s := fun I L => by rw [hσm, hσb, hsb]; rfl
  have e5 : ∀ I L, gR 11 5 100 (hk σm I L) = some (gsa σ) := fun I L => by rw [hσm, hσb]; rfl
  have e8 : ∀ I L, gR 11 8 100 (hk σf I L) = some 285 := fun I L => rfl
  have ef3 : ∀ I L, gR 11 3 100 (hk σf I L) = some la := fun I L => by rw [hσf, hσm]; rfl
  have gf : gla σf = la ∧ glb σf = gla σ ∧ gsa σf = s ∧ gsb σf = gsa σ ∧ gN σf = gN σ := by rw [hσf, hσm, hσb]; exact ⟨rfl, rfl, rfl, rfl, rfl⟩
  have cls : mX11_suit 100 (hk σ I L) = some (I9 la 0, hk σf I9 L9) := by
    rw [pre, c1, b2s, if_neg (show ¬ (1 : Int32) = 0 by decide), e4, obind, e2, obind, fe, obind, e4, obind, e3, obind, sR_b, obind, sR_a, obind, ← hσm, e6, obind, e5, obind, sR_d, obind, sR_c, obind, ← hσf, e8, obind]
    unfold mX0_forget
    rw [if_pos s285, sI_ok s285, obind, setI_hk, hpI_hk', sI_ok s285, obind, setI_hk, hpI_hk', rowUp_two, rowUp_same, obind, ← hI9, sL_ok s100, obind, setL_hk, hpL_hk'', ← hL9, ef3, obind, gI_la gb, obind]
  have i9 : ∀ x, x ≠ 285 → I9 x = I6 x := fun x hx => by rw [hI9, rowUp_ne _ _ hx]
  have l9 : ∀ x, x ≠ 100 → L9 x = L6 x := fun x hx => by rw [hL9, rowUp_ne _ _ hx]
  have iy : ∀ x, x ≠ 282 → x ≠ 108 → (x < la ∨ la + 78 ≤ x) → (x < s ∨ s + 7 ≤ x) → x ≠ 101 → (x < 103 ∨ 106 < x) → I6 x = I x := fun x a b c d e f => by rw [f6 x b (by omega) (by omega), c5.1 x a b c d, f5 x e f a c d]
  have ly : ∀ x, (x < 109 ∨ 111 < x) → x ≠ 284 → (x < la ∨ la + 78 ≤ x) → L6 x = L x := fun x a b c => by rw [g6 x a (by omega), c5.2 x a b (by omega), g5 x (by omega)]
  have hk5 : T' 0 ≤ 480 := by
    have q1 := (hls m).1
    have q2 : 0 + R.length = m := c3.1.2.1
    have q3 := c3.1.1.1.1
    have q4 := c3.1.1.2.1
    omega
  have hW : WT T' := c3.2.1.wt (by omega) (by have := c3.1.2.2.2.2; have := c3.1.1.le.2; omega)
  have hcs := c3.2.2.1.cst hs c3.2.1.1.2.1
  have hcs2 : CSt I9 s (bgN T') := hcs.eq fun x a b => by rw [i9 x (by omega), f6 x (by omega) (by omega) (by omega)]
  have kk : ∀ x, (x < 100 ∨ x = 107 ∨ x = 421 ∨ 433 ≤ x) → I9 x = I x ∧ L9 x = L x := fun x hx => by
    rw [i9 x (by omega), l9 x (by omega), iy x (by omega) (by omega) (by omega) (by omega) (by omega) (by omega), ly x (by omega) (by omega) (by omega)]
    exact ⟨rfl, rfl⟩
  have h285 : ∀ j, j ≠ 4 → j ≠ 2 → I9 285 j = I 285 j := fun j a b => by rw [hI9, rowUp_same, updA_ne _ _ b, updA_ne _ _ a, iy 285 (by omega) (by omega) (by omega) (by omega) (by omega) (by omega)]
  refine ⟨σf, I9, L9, T', ?_, gf.2.2.2.2, ⟨⟨⟨?_, ?_, ?_⟩, hW, (bg_EX hW).1, ?_, ?_⟩, bg_EX hW, ⟨?_, ⟨Nat.zero_le _, ?_, ?_⟩, ⟨?_, fun i _ z => by cases z⟩, fun j hj => absurd hj (Nat.not_lt_zero _), fun i _ z => by cases z⟩, ?_⟩, ⟨?_, ?_, ?_, ?_⟩, ⟨Nat.zero_le _, ?_, fun i hi => absurd hi (Nat.not_lt_zero _)⟩, ?_, ?_, cv.1, cv.2.1, fun x hx => kk x (by omega)⟩
  · rw [cls, i9 la (by omega), clw.1.1, c0]
  · rw [gf.1]; exact gb
  · rw [gf.2.2.1]; exact sb1
  · intro f hf
    rw [(kk 2 (by omega)).2]; exact hO f hf
  · rw [gf.1]
    exact clw.eq2 gb hW (fun j hj => i9 _ (by omega)) (fun j hj => l9 _ (by omega))
  · rw [gf.2.2.1]; exact hcs2
  · rw [gf.2.2.1]; exact sb2
  · rw [hI9, rowUp_same, updA_ne _ _ (by omega), updA_same]; rfl
  · obtain ⟨_, _, top, t1, t2, _⟩ := hB.2.2.1.2.1
    exact ⟨top, t1, by rw [h285 3 (by omega) (by omega)]; exact t2, fun j hj => absurd hj (Nat.not_lt_zero _)⟩
  · rw [hI9, rowUp_same, updA_same]; rfl
  · intro f hf
    rw [(kk 421 (by omega)).1]; exact hB.2.2.2 f hf
  · unfold SG
    rw [gf.1, gf.2.1, gf.2.2.1, gf.2.2.2.1]
    exact ⟨gb, ga, Ne.symm gne, sb1, sb2, sa1, sa2, Ne.symm sne⟩
  · intro w hw
    rw [(kk 107 (by omega)).1]; exact hR w hw
  · intro f hf
    rw [gf.1, i9 (la + 2) (by omega), f6 (la + 2) (by omega) (by omega) (by omega)]
    exact c3.1.2.2.1.2.2.2.2.1 f hf
  · intro k hk'
    rw [gf.1, i9 (la + 2) (by omega), f6 (la + 2) (by omega) (by omega) (by omega)]
    exact c3.1.2.2.1.2.2.2.2.2 k hk'
  · rw [i9 101 (by omega), f6 101 (by omega) (by omega) (by omega), c5.1 101 (by omega) (by omega) (by omega) (by omega), z6]; rfl
  · rw [i9 282 (by omega), f6 282 (by omega) (by omega) (by omega)]; exact c3.1.1.1.2
  · rw [hL9, rowUp_same, updA_same]
/-- what is asked of it at once -/
theorem c_fault (h7 : I 282 7 = 0) : mX11_fault 100 0 (hk σ I L) = some 0 ∧ mX11_fault 100 1 (hk σ I L) = some (-1) := by
  constructor
  · unfold mX11_fault
    rw [if_pos s100]
    show ((gR 11 7 100 (hk σ I L)).bind fun v1 => (gI 2 7 v1 (hk σ I L)).bind fun v2 => some v2) = _
    rw [gPar, gPI, obind, h7]
  · unfold mX11_fault
    rw [if_pos s100]
    show ((gR 11 7 100 (hk σ I L)).bind fun v3 => (gI 2 7 v3 (hk σ I L)).bind fun v4 => if v4 = 0 then (some (-1 : Int32)) else ((gR 11 7 100 (hk σ I L)).bind fun v5 => (gI 2 8 v5 (hk σ I L)).bind fun v6 => some v6)) = _
    rw [gPar, gPI, obind, h7, if_pos rfl]
theorem c_count8 (h : TC I (fun _ => 0) 0) : mX11_count 100 8 (hk σ I L) = some (0, hk σ I L) := by
  unfold mX11_count
  rw [if_pos s100]
  show ((gR 11 0 100 (hk σ I L)).bind fun v24 => (gI 7 1 v24 (hk σ I L)).bind fun v25 => some (v25, hk σ I L)) = _
  rw [gTxt, gI_ok s101, obind]
  show some (I 101 1, hk σ I L) = _
  rw [h.2.1]; rfl
end I2
