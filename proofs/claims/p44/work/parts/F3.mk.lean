/-! BUILDERS ARE MADE, STRINGS MADE OF THEM -/
section F3
variable {h h' h1 h2 h3 : Hp} {P P' : Nat → Prop} {c c' s s' a b kd n x y cap : Nat} {t u : List Nat}
/-- a builder's object, nothing in it -/
theorem ub_ok (hC : CLO h) (h433 : 433 ≤ hpN h) : newO 16 4 h = some (hpN h, hpNew 17 4 h) ∧ UB (hpNew 17 4 h) (hpN h) ∧ Gw h (hpNew 17 4 h) nP 1 4 := by
  have e := (Gw.rf (h := h) (P := nP) 0 0).nw 17 4
  rw [Nat.zero_add, Nat.zero_add] at e
  exact ⟨newO_ok 16 4 hC.1, ⟨h433, by rw [nw_N]; omega, by rw [nw_S, if_pos rfl], nw_I0 3, nw_R0 0⟩, e⟩
/-- an empty row of n bytes for it -/
theorem ini_ok (hC : CLO h) (hu : UB h x) {m : Nat} (hm : m ≤ 3000) (cd : Int32) (hcd : cd = 0) :
    ∃ h1 h2, newV 53 (nI m) h = some (hpN h, h1) ∧ sR 16 0 x (hpN h) h1 = some h2 ∧ (hpS h2 x).1 = 16 + 1 ∧ SBc (setI h2 x (updA (hpI h2 x) 1 cd)) x [] m ∧ Gw h (setI h2 x (updA (hpI h2 x) 1 cd)) (fun a => a = x) 1 m ∧ Gw h h2 (fun a => a = x) 1 m := by
  obtain ⟨a1, a2, a3, a4, a5⟩ := hu
  have xN : x ≠ hpN h := by omega
  have k1 : (hpS (hpNew 53 m h) x).1 = 16 + 1 := by rw [nw_S, if_neg xN, a3]
  have e1 := (Gw.rf (h := h) (P := fun a => a = x) 0 0).nw 53 m
  rw [Nat.zero_add, Nat.zero_add] at e1
  have e2 := e1.sR (a := x) (r := updA (hpR (hpNew 53 m h) x) 0 (hpN h)) (fun _ => rfl) (fun _ => Or.inr (by rw [updA_same, nw_N]; exact ⟨Nat.le_refl _, by omega⟩))
  refine ⟨hpNew 53 m h, setR (hpNew 53 m h) x (updA (hpR (hpNew 53 m h) x) 0 (hpN h)), newV_ok 53 hC.1 (by omega), sR_ok k1, k1, ?_, e2.sI (fun _ => rfl), e2⟩
  have r : hpR (setI (setR (hpNew 53 m h) x (updA (hpR (hpNew 53 m h) x) 0 (hpN h))) x (updA (hpI (setR (hpNew 53 m h) x (updA (hpR (hpNew 53 m h) x) 0 (hpN h))) x) 1 cd)) x 0 = hpN h := by
    show (setR (hpNew 53 m h) x (updA (hpR (hpNew 53 m h) x) 0 (hpN h))).2.2.2.1 x 0 = hpN h
    show hpR (setR (hpNew 53 m h) x (updA (hpR (hpNew 53 m h) x) 0 (hpN h))) x 0 = hpN h
    rw [setR_R, if_pos rfl, updA_same]
  unfold SBc
  rw [r]
  refine ⟨⟨a1, by show x < hpN h + 1; omega, by show hpS (hpNew 53 m h) x = _; rw [nw_S, if_neg xN]; exact a3, by rw [setI_I, if_pos rfl, updA_same]; exact hcd, ?_⟩, ⟨by omega, by show hpN h < hpN h + 1; omega, by show hpS (hpNew 53 m h) (hpN h) = _; rw [nw_S, if_pos rfl], Nat.zero_le _⟩, fun j hj => ⟨0, by omega, ?_⟩, fun j hj => absurd hj (Nat.not_lt_zero _), fun a ha hk hne => ?_⟩
  · rw [setI_I, if_pos rfl, updA_ne _ _ (by omega)]
    show hpI (hpNew 53 m h) x 3 = _
    rw [nw_I xN, a4]; rfl
  · rw [setI_I, if_neg (Ne.symm xN)]
    show hpI (hpNew 53 m h) (hpN h) j = _
    rw [nw_I0]; rfl
  · have ha : a < hpN h + 1 := ha
    have hk : txk (hpNew 53 m h) a := hk
    show hpR (setR (hpNew 53 m h) x (updA (hpR (hpNew 53 m h) x) 0 (hpN h))) a 0 ≠ hpN h
    rw [setR_R, if_neg hne]
    unfold txk at hk
    rw [nw_S] at hk
    by_cases q : a = hpN h
    · rw [if_pos q] at hk; have hk : (53 : Nat) = 17 ∨ (53 : Nat) = 18 := hk; omega
    · rw [if_neg q] at hk
      have := hC.2 a (by omega) hk
      rw [nw_R q]; omega
/-- a builder, new -/
theorem nsb_ok (hC : CLO h) (h433 : 433 ≤ hpN h) : ∃ h', (∀ {ρ : Type} (K : Nat → Hp → Option ρ), (b2 (newO 16 4 h) fun v h1 => (mJ4_init_da8c8 v h1).bind fun h2 => K v h2) = K (hpN h) h') ∧ SB h' (hpN h) [] ∧ Gw h h' nP 2 20 := by
  obtain ⟨e0, u0, x0⟩ := ub_ok hC h433
  have C0 := hC.ex x0
  obtain ⟨h1, h2, e1, e2, k2, sb, ex, _⟩ := ini_ok C0 u0 (m := 16) (by omega) 0 rfl
  refine ⟨_, fun K => ?_, ⟨16, sb, by show 16 ≤ 2 * 0 + 34; omega⟩, (x0.tr ex (P := nP) (fun a ha q => by have : a = hpN h := q; omega)).up (fun _ _ z => z) (by omega) (by omega)⟩
  unfold mJ4_init_da8c8 mJ5_init_d00df
  rw [e0, b2s, if_neg (by decide), show (16 : Int32) = nI 16 from rfl, e1, b2s, e2, obind, sB_ok k2 (by decide), obind, obind, obind]
/-- a builder that begins with a String -/
theorem inis_ok (hC : CLO h) (hu : UB h x) (hs : ST h s u) (hl : u.length ≤ 1000) : ∃ h', mJ4_init_a7421 x s h = some h' ∧ SB h' x u ∧ Gw h h' (fun a => a = x) 2 (3 * u.length + 18) := by
  have len := hs.len
  have cod := hs.cod
  have xN : x ≠ hpN h := by have := hu.2.1; omega
  have kx : (hpS h x).1 = 16 + 1 := by rw [hu.2.2.1]
  -- the coder first, then the row
  obtain ⟨g, hg⟩ : ∃ g, g = setI h x (updA (hpI h x) 1 0) := ⟨_, rfl⟩
  have eg : Gw h g (fun a => a = x) 0 0 := by rw [hg]; exact (Gw.rf 0 0).sI (fun _ => rfl)
  have ug : UB g x := by
    obtain ⟨a1, a2, a3, a4, a5⟩ := hu
    rw [hg]
    exact ⟨a1, a2, a3, by rw [setI_I, if_pos rfl, updA_ne _ _ (by omega)]; exact a4, a5⟩
  have Cg := hC.ex eg
  have Ng : hpN g = hpN h := by rw [hg]; rfl
  obtain ⟨h1, h2, e1, e2, k2, sb, ex, ex2⟩ := ini_ok Cg ug (m := u.length + 16) (by omega) 0 rfl
  -- the coder is there already
  have same : setI h2 x (updA (hpI h2 x) 1 0) = h2 := by
    have z : hpI h2 x 1 = 0 := by
      have e := e2
      have e' := e1
      unfold newV at e'
      split at e'
      · unfold newA at e'
        split at e'
        · injection e' with e'
          have e'' : hpNew 53 (nI (u.length + 16)).toNatClampNeg g = h1 := congrArg Prod.snd e'
          have k1 : (hpS h1 x).1 = 16 + 1 := by rw [← e'', nw_S, if_neg (by rw [Ng]; exact xN)]; rw [hg]; exact kx
          rw [sR_ok k1] at e
          injection e with e
          rw [← e, setR_I, ← e'', nw_I (by rw [Ng]; exact xN), hg, setI_I, if_pos rfl, updA_same]
        · cases e'
      · cases e'
    have : updA (hpI h2 x) 1 0 = hpI h2 x := by
      funext j
      rw [updA_at]
      by_cases q : j = 1
      · rw [if_pos q, q, z]
      · rw [if_neg q]
    rw [this, setI_id]
  rw [same] at sb ex
  have C2 := Cg.ex ex
  have exh : Gw h h2 (fun a => a = x) 1 (u.length + 16) := (eg.tr ex (P := fun a => a = x) (fun a _ q => q)).up (fun _ _ z => z) (by omega) (by omega)
  have s2 : ST h2 s u := hs.sm exh (fun q => by
    obtain ⟨_, ⟨z1, z2, _⟩ | ⟨_, a2, a3, _, _, _, a7, _⟩⟩ := hs
    · omega
    · refine ⟨fun z => ?_, fun z => ?_⟩
      · have z : s = x := z
        rw [z, hu.2.2.1] at a3; cases a3
      · have z : hpR h s 0 = x := z
        rw [z, hu.2.2.1] at a7; cases a7)
  obtain ⟨h3, cap3, e3, sb3, c3, ex3⟩ := appc_ok C2 sb s2 (by simp only [List.length_nil]; omega) (by omega)
  have kk2 := sb.kx
  rw [List.nil_append] at sb3
  have l0 : ([] : List Nat).length = 0 := rfl
  rw [l0] at c3 ex3
  refine ⟨h3, ?_, ⟨cap3, sb3, by omega⟩, (exh.tr ex3 (P := fun a => a = x) (fun a ha q => ?_)).up (fun _ _ z => z) (by omega) (by omega)⟩
  · unfold mJ4_init_a7421 mJ5_init_a7421 mJ5_init_a7421_b24 mJ4_append_cf1ce
    rw [len, obind, show (2147483631 : Int32) = nI 2147483631 from rfl, c_lt (by omega) (by omega), cod, obind, sB_ok kx (by decide), obind, ← hg, if_pos rfl, show (16 : Int32) = nI 16 from rfl, nI_add, e1, b2s, e2, obind, if_pos kk2, e3, b2s, b2s, obind]
  · rcases q with q | q
    · exact q
    · have := sb.2.1.1
      obtain ⟨_, _, z⟩ := exh
      rcases z x sb.1.2.1 (Or.inl (by rw [sb.1.2.2.1])) with ⟨z1, z2, z3⟩ | z | z
      · rw [hu.2.2.2.2] at z3; omega
      · omega
      · omega
/-- a String of what it holds -/
theorem tos_ok (hC : CLO h) (hx : SB h x t) (hl : t.length ≤ 3000) : ∃ s h', mJ4_toString_0e30d x h = some (s, h') ∧ ST h' s t ∧ Gw h h' nP 2 (4 + t.length) ∧ s = hpN h := by
  obtain ⟨cap, hx, hc⟩ := hx
  have hx0 := hx
  have kx := hx.kx
  obtain ⟨g, hg⟩ : ∃ g, g = hpNew 18 4 h := ⟨_, rfl⟩
  have eg : Gw h g nP 1 4 := by
    have := (Gw.rf (h := h) (P := nP) 0 0).nw 18 4
    rw [Nat.zero_add, Nat.zero_add] at this
    rw [hg]; exact this
  have xg := hx.sm eg (fun q => q) (fun q => q)
  have kg := xg.kx
  have Ng : hpN g = hpN h + 1 := by rw [hg]; rfl
  have x433 := hx.1.1
  have xlt := hx.1.2.1
  have kN : (hpS g (hpN h)).1 = 17 + 1 := by rw [hg, nw_S, if_pos rfl]
  obtain ⟨v, hv⟩ : ∃ v, v = hpR g x 0 := ⟨_, rfl⟩
  obtain ⟨g2, hg2⟩ : ∃ g2, g2 = setI g (hpN h) (updA (hpI g (hpN h)) 1 0) := ⟨_, rfl⟩
  have e2 : Gw h g2 nP 1 4 := by rw [hg2]; exact eg.sI (fun q => by omega)
  obtain ⟨⟨a1, a2, a3, a4, a5⟩, ⟨b1, b2', b3, b4⟩, c1, d1, f1⟩ := id xg
  rw [← hv] at b1 b2' b3 c1 d1
  have vN : v ≠ hpN h := fun z => by rw [z] at b3; rw [hg, nw_S, if_pos rfl] at b3; cases b3
  have S2 : ∀ a, hpS g2 a = hpS g a := fun a => by rw [hg2]; rfl
  have I2 : ∀ a, a ≠ hpN h → hpI g2 a = hpI g a := fun a ha => by rw [hg2, setI_I, if_neg ha]
  have N2 : hpN g2 = hpN h + 1 := by rw [hg2]; exact Ng
  have bo : bOk v g2 = true := by unfold bOk; rw [S2, b3]; simp
  have bn : bN v g2 = cap := by unfold bN; rw [if_neg (by omega), if_neg (by omega), if_neg (by omega), S2, b3]
  have gv : mJ5_getValue_6d5f1 x g = some v := by unfold mJ5_getValue_6d5f1; rw [if_pos kg, gR_ok kg, obind, ← hv]
  have gl : mJ4_length_8abf5 x g = some (nI t.length) := by unfold mJ4_length_8abf5 mJ5_length_8abf5; rw [if_pos kg, if_pos kg, gI_ok kg, obind, obind, a5]
  have il : mJ5_isLatin1_aae02 x g = some 1 := by
    unfold mJ5_isLatin1_aae02
    rw [if_pos kg, if_neg (by decide), gI_ok kg, obind, a4, if_pos rfl]
  -- the copy of the row
  have cp : ∃ g3, mJ7_copyOfRange_39247 v (0 : Int32) (nI t.length) g2 = some (hpN h + 1, g3) ∧ Gw h g3 nP 2 (4 + t.length) ∧ hpN g3 = hpN h + 2 ∧ hpS g3 (hpN h + 1) = (53, t.length) ∧ (∀ j, j < t.length → hpI g3 (hpN h + 1) j = nI (t.getD j 0)) ∧ (∀ a, a ≠ hpN h + 1 → hpS g3 a = hpS g2 a ∧ hpI g3 a = hpI g2 a ∧ hpR g3 a = hpR g2 a) := by
    by_cases q : t.length = cap
    · have cc : clC v g2 = true := by
        unfold clC
        simp only [Bool.and_eq_true, decide_eq_true_eq, List.all_eq_true, List.mem_range]
        rw [S2, b3]
        refine ⟨⟨rfl, by omega⟩, fun i hi => ?_⟩
        obtain ⟨c, hc2, ec⟩ := c1 i hi
        rw [I2 v vN, ec]
        exact (by128 c hc2).2.1
      have ec : clB v g2 = some (hpN h + 1, hpClo v g2) := by unfold clB; rw [if_pos cc, N2]
      have zS : ∀ a, hpS (hpClo v g2) a = if a = hpN g2 then hpS g2 v else hpS g2 a := fun a => rfl
      refine ⟨hpClo v g2, ?_, ?_, ?_, ?_, fun j hj => ?_, fun a ha => ?_⟩
      · unfold mJ7_copyOfRange_39247
        rw [if_pos rfl, bLn_ok bo bn, obind, c_eqd (by omega) (by omega), if_pos q, ec, b2s, if_pos (by rw [zS, N2, if_pos rfl, S2, b3])]
      · have := e2.clo v (by rw [S2, b3])
        rw [S2, b3] at this
        exact this.up (fun _ _ z => z) (by omega) (by show 4 + cap ≤ _; omega)
      · show hpN g2 + 1 = _; rw [N2]
      · rw [zS, N2, if_pos rfl, S2, b3, q]
      · have : hpI (hpClo v g2) (hpN h + 1) j = hpI g2 v j := by
          show (if hpN h + 1 = hpN g2 then _ else _) = _
          rw [N2, if_pos rfl]
        rw [this, I2 v vN]; exact (d1 j hj).2
      · have ha2 : a ≠ hpN g2 := by rw [N2]; exact ha
        exact ⟨by rw [zS, if_neg ha2], by funext k; exact if_neg ha2, by funext k; exact if_neg ha2⟩
    · obtain ⟨g4, hg4⟩ : ∃ g4, g4 = hpNew 53 t.length g2 := ⟨_, rfl⟩
      have v4 : v ≠ hpN g2 := by rw [N2]; omega
      have S4 : hpS g4 v = (53, cap) := by rw [hg4, nw_S, if_neg v4, S2, b3]
      have bo4 : bOk v g4 = true := by unfold bOk; rw [S4]; simp
      have bn4 : bN v g4 = cap := by unfold bN; rw [if_neg (by omega), if_neg (by omega), if_neg (by omega), S4]
      have i0 : ixN (0 : Int32) = 0 := rfl
      have it : ixN (nI t.length) = t.length := ixN_nI (by omega)
      have cok : cpB v (0 : Int32) (hpN h + 1) (0 : Int32) (nI t.length) g4 = some (cpH v (0 : Int32) (hpN h + 1) (0 : Int32) (nI t.length) g4) := by
        unfold cpB
        rw [if_pos]
        unfold cpC
        rw [bo4, bn4, i0, it, show hpS g4 (hpN h + 1) = (53, t.length) by rw [hg4, nw_S, N2, if_pos rfl]]
        simp only [Bool.and_eq_true, decide_eq_true_eq, List.all_eq_true, List.mem_range, Bool.true_and]
        refine ⟨⟨⟨trivial, ⟨by decide, by decide, nI_pos (by omega)⟩⟩, by omega, by omega⟩, fun i hi => ?_⟩
        obtain ⟨c, hc2, ec⟩ := c1 i (by omega)
        unfold bAt
        rw [if_neg (by omega), if_neg (by omega), if_neg (by omega), Nat.zero_add, hg4, nw_I v4, I2 v vN, ec]
        exact (by128 c hc2).2.1
      refine ⟨cpH v (0 : Int32) (hpN h + 1) (0 : Int32) (nI t.length) g4, ?_, ?_, ?_, ?_, fun j hj => ?_, fun a ha => ?_⟩
      · unfold mJ7_copyOfRange_39247 mJ7_copyOfRange_39247_b10 mJ7_copyOfRangeByte_39247 mJ7_checkLength_df160
        rw [if_pos rfl, bLn_ok bo bn, obind, c_eqd (by omega) (by omega), if_neg q, if_neg (nI_pos (by omega)), obind, Int32.sub_zero, newV_ok 53 (by omega) (by omega), b2s, ← hg4, bLn_ok bo4 bn4, obind, Int32.sub_zero, min_d (by omega) (by omega), Nat.min_eq_right (by omega), N2, cok, obind, b2s]
      · have := e2.nw 53 t.length
        rw [← hg4] at this
        exact (this.cp (fun q => by omega)).up (fun _ _ z => z) (by omega) (by omega)
      · rw [cp_N, hg4, nw_N, N2]
      · rw [cp_S, hg4, nw_S, N2, if_pos rfl]
      · rw [cp_Id]
        unfold va_cpy
        rw [i0, it, if_pos (by omega)]
        unfold bAt
        rw [if_neg (by omega), if_neg (by omega), if_neg (by omega), Nat.zero_add, Nat.sub_zero, hg4, nw_I v4, I2 v vN]
        exact (d1 j hj).2
      · have ha2 : a ≠ hpN g2 := by rw [N2]; exact ha
        exact ⟨by rw [cp_S, hg4, nw_S, if_neg ha2], by rw [cp_I ha, hg4, nw_I ha2], by rw [cp_R, hg4, nw_R ha2]⟩
  obtain ⟨g3, r1, r2, r3, r4, r5, r6⟩ := cp
  obtain ⟨q1, q2, q3⟩ := r6 (hpN h) (by omega)
  have k3 : (hpS g3 (hpN h)).1 = 17 + 1 := by rw [q1, S2]; exact kN
  have dd : ∀ j, j < t.length → t.getD j 0 < 128 := fun j hj => (d1 j hj).1
  refine ⟨hpN h, setR g3 (hpN h) (updA (hpR g3 (hpN h)) 0 (hpN h + 1)), ?_, ⟨dd, Or.inr ?_⟩, ?_, rfl⟩
  · unfold mJ4_toString_0e30d mJ0_init_81219 mJ0_init_db425
    rw [if_pos kx, newO_ok 17 4 hC.1, b2s, ← hg, gv, obind, gl, obind, il, obind, if_neg (by decide), sB_ok kN (by decide), obind, ← hg2, r1, b2s, sR_ok k3, obind, obind, obind]
  · have r : hpR (setR g3 (hpN h) (updA (hpR g3 (hpN h)) 0 (hpN h + 1))) (hpN h) 0 = hpN h + 1 := by rw [setR_R, if_pos rfl, updA_same]
    rw [r]
    refine ⟨by omega, by rw [setR_N]; omega, by rw [setR_S, q1, S2, hg, nw_S, if_pos rfl], by rw [setR_I, q2, hg2, setI_I, if_pos rfl, updA_same], by omega, by rw [setR_N]; omega, by rw [setR_S]; exact r4, fun j hj => by rw [setR_I]; exact r5 j hj⟩
  · exact r2.sR (fun q => by omega) (fun _ => Or.inr (by rw [updA_same]; omega))
end F3
