/-! THE TEXT OF WHAT IS SAID -/
section F5
variable {h h' h0 h1 h2 h3 : Hp} {P P' : Nat → Prop} {c c' s s' z a b n x y cap d F : Nat} {t u : List Nat}
theorem SA.hd {T : Tr d} (hs : SA h d a T) : 433 ≤ a ∧ a < hpN h ∧ (hpS h a).1 = 13 + 1 ∧ hpI h a 0 = nI (kd d T) := by
  cases d with
  | zero =>
    obtain ⟨a1, a2, a3, a4, a5⟩ := hs
    exact ⟨a1, a2, by rw [a3], a4⟩
  | succ d =>
    obtain ⟨a1, a2, a3, a4, a5, a6⟩ := hs
    exact ⟨a1, a2, by rw [a3], a4⟩
theorem kd_le {T : Tr d} (hT : okT F d T) : kd d T ≤ 4 := by
  cases d with
  | zero => exact Nat.zero_le _
  | succ d => exact hT.1
theorem okT.mono {F G : Nat} (hFG : F ≤ G) : ∀ {d : Nat} {T : Tr d}, okT F d T → okT G d T
  | 0, T, h => by
    have h : tL T < F := h
    show tL T < G
    omega
  | d + 1, T, ⟨a1, a2, a3, a4⟩ => ⟨a1, fun q => by have := a2 q; omega, fun q => by
    obtain ⟨b1, b2, b3, b4, b5⟩ := a3 q
    exact ⟨b1, b2, b3, b4, fun i hi => okT.mono hFG (b5 i hi)⟩, a4⟩
/-- what a call of `all` gives -/
def allA (d n : Nat) : Prop := ∀ {h : Hp} {a : Nat} {T : Tr d}, CLO h → 433 ≤ hpN h → SA h d a T → okT 8 d T → ∃ z h', (mg_X13_all n).1 a h = some (z, h') ∧ ST h' z (tA d T) ∧ Gw h h' nP (cA d) (sA d)
def allO (d n : Nat) : Prop := ∀ {h : Hp} {a : Nat} {T : Tr d}, CLO h → 433 ≤ hpN h → SA h d a T → okT 8 d T → ∃ z h', (mg_X13_all n).2 a h = some (z, h') ∧ ST h' z (tO d T) ∧ Gw h h' nP (cA d + 10) (sA d + 60 + 10 * lA d)
theorem lA_le (hd : d ≤ 2) : lA d ≤ 100 := by
  rcases (show d = 0 ∨ d = 1 ∨ d = 2 by omega) with rfl | rfl | rfl <;> decide
theorem one_of (hd : d ≤ 2) (hA : allA d n) : allO d (n + 1) := by
  intro h a T hC h433 hs hT
  obtain ⟨a1, a2, a3, a4⟩ := hs.hd
  have k4 := kd_le hT
  have tl := tA_len hT
  have l100 := lA_le hd
  show ∃ z h', mX13_one_F (mg_X13_all n) a h = some (z, h') ∧ _
  unfold mX13_one_F
  rw [if_pos a3, gI_ok a3, obind, a4, c_0 (by omega)]
  by_cases q : kd d T ≤ 1
  · obtain ⟨z, h', e, st, ex⟩ := hA hC h433 hs hT
    have b15 : mX13_one_b15 (mg_X13_all n) a h = some (z, h') := by
      unfold mX13_one_b15
      rw [e, b2s]
    refine ⟨z, h', ?_, by unfold tO wr; rw [if_pos q]; exact st, ex.up (fun _ _ q => q) (by omega) (by omega)⟩
    by_cases q0 : kd d T = 0
    · rw [if_pos q0, b15]
    · rw [if_neg q0, obind, c_1 (by omega), if_pos (by omega), b15]
  · rw [if_neg (by omega), obind, c_1 (by omega), if_neg (by omega)]
    obtain ⟨g1, e1, b1⟩ := BL.new hC h433
    obtain ⟨g2, e2, b2', x2⟩ := b1.app (u := [40]) st18 (by decide)
    have s2 := (hs.fr b1.2.2.2).keepB b1.2.2.1 x2
    obtain ⟨z, g3, e3, st3, x3⟩ := hA b2'.2.1 b2'.ge s2 hT
    have b3 := b2'.sub x3
    obtain ⟨g4, e4, b4, x4⟩ := b3.app st3 (by simp only [List.length_append, List.length_nil, List.length_cons]; omega)
    obtain ⟨g5, e5, b5, x5⟩ := b4.app (u := [41]) st19 (by simp only [List.length_append, List.length_nil, List.length_cons]; omega)
    obtain ⟨z6, g6, e6, st6, x6, _⟩ := b5.tos (by simp only [List.length_append, List.length_nil, List.length_cons]; omega)
    refine ⟨z6, g6, ?_, ?_, x6.up (fun _ _ q => q) (by omega) ?_⟩
    · rw [e1, e2, b2s, e3, b2s, e4, b2s, e5, b2s, e6, b2s]
    · have : tO d T = [] ++ [40] ++ tA d T ++ [41] := by unfold tO wr; rw [if_neg q]; rfl
      rw [this]; exact st6
    · simp only [List.length_append, List.length_nil, List.length_cons]; omega
theorem ch_f {f : Nat} (hf : f < 8) : i2cV ((97 : Int32) + nI f) = nI (97 + f) := by
  rw [show (97 : Int32) = nI 97 from rfl, nI_add]
  exact (by128 _ (by omega)).2.2.2.2.1
/-- a fact's letter -/
theorem leaf_ok {f : Nat} (hC : CLO h) (h433 : 433 ≤ hpN h) (k3 : (hpS h a).1 = 13 + 1) (a2 : a < hpN h) (kf : hpI h a 1 = nI f) (hf : f < 8) :
    ∃ z h', (b2 (newO 16 4 h) fun v56 h55 => (mJ4_init_da8c8 v56 h55).bind fun h58 => b2 (mJ4_append_15ec4 v56 14 h58) fun v59 h60 => (gI 13 1 a h60).bind fun v61 => b2 (mJ4_append_cf468 v59 (i2cV ((97 : Int32) + v61)) h60) fun v62 h63 => b2 (mJ4_toString_0e30d v62 h63) fun v64 h65 => some (v64, h65)) = some (z, h') ∧ ST h' z [97 + f] ∧ Gw h h' nP 10 60 := by
  obtain ⟨g1, e1, b1⟩ := BL.new hC h433
  obtain ⟨g2, e2, b2', x2⟩ := b1.app (u := []) st14 (by decide)
  have m1 := b1.2.2.2.sm a2 (fun q => q)
  have m2 := b2'.2.2.2.sm a2 (fun q => q)
  have k2 : (hpS g2 a).1 = 13 + 1 := by rw [m2.1]; exact k3
  have f2 : hpI g2 a 1 = nI f := by rw [m2.2.1]; exact kf
  obtain ⟨g3, e3, b3, x3⟩ := b2'.ch (d := 97 + f) (by omega) (by decide)
  obtain ⟨z4, g4, e4, st4, x4, _⟩ := b3.tos (by show 1 ≤ 3000; omega)
  refine ⟨z4, g4, ?_, st4, x4.up (fun _ _ q => q) (by omega) (by show 20 + (2 * (0 + 0) + 2) + (2 * (0 + 1) + 2) + (4 + 1) ≤ 60; omega)⟩
  rw [e1, e2, b2s, gI_ok k2, obind, f2, ch_f hf, e3, b2s, e4, b2s]
/-- the parts, one behind another -/
theorem parts_ok {m p0 : Nat} {T : Tr (d + 1)} {t0 : List Nat} (hd : d < 2) (hA : allA d n) (hO : allO d n) (hT : okT 8 (d + 1) T) (hk : tK T ≠ 0) (hk1 : tK T ≠ 1) (b : BL h0 h x t0 c s) (hs : SA h (d + 1) a T) (ht0 : t0.length ≤ 6) :
    ∃ z h', mX13_all_l115 (mg_X13_all n) a x (0 : Int32) h = some (z, h') ∧ ST h' z (t0 ++ (jn (sepT (tK T)) (fun i => if tK T = 4 then tA d (tP T i) else tO d (tP T i)) (tM T) ++ (if tK T = 4 then [41] else []))) ∧
      Gw h0 h' nP (c + 3 * (cA d + 12) + 3) (s + 3 * (sA d + 70 + 10 * lA d + 4 * lA (d + 1)) + 4 * lA (d + 1) + 20) := by
  obtain ⟨k5, f4, q3, o4⟩ := id hT
  obtain ⟨m1, m3, _, m2, okp⟩ := q3 hk
  obtain ⟨p, hp⟩ : ∃ p : Nat → List Nat, p = fun i => if tK T = 4 then tA d (tP T i) else tO d (tP T i) := ⟨_, rfl⟩
  have l100 := lA_le (d := d) (by omega)
  have pl : ∀ i, i < tM T → (p i).length ≤ lA d + 2 := fun i hi => by
    have e1 := tA_len (okp i hi)
    have e2 := wr_len (kd d (tP T i)) (tA d (tP T i))
    rw [hp]
    show (if tK T = 4 then tA d (tP T i) else tO d (tP T i)).length ≤ _
    split
    · omega
    · unfold tO; omega
  have jl : ∀ i, i ≤ tM T → (jn (sepT (tK T)) p i).length ≤ 3 * (lA d + 4) := fun i hi => by
    have := jn_len (sep := sepT (tK T)) (p := p) (l := lA d + 2) (sep_len _) i (fun j hj => pl j (by omega))
    have e3 : i * (lA d + 2 + 2) ≤ 3 * (lA d + 2 + 2) := Nat.mul_le_mul_right _ (by omega)
    omega
  have l1 : lA (d + 1) = 8 + 3 * (lA d + 4) := rfl
  have sl := sep_len (tK T)
  rw [← hp]
  obtain ⟨C, hCc⟩ : ∃ C, C = cA d + 12 := ⟨_, rfl⟩
  obtain ⟨S, hS⟩ : ∃ S, S = sA d + 70 + 10 * lA d + 4 * lA (d + 1) := ⟨_, rfl⟩
  unfold mX13_all_l115
  obtain ⟨o, e, z, h', rfl, st, ex⟩ := lp_inv (f := fun s : (Int32 × Hp) => mX13_all_l115f (mg_X13_all n) a x s.1 s.2) (tM T)
    (fun i st => ∃ g, st = (nI i, g) ∧ BL h0 g x (t0 ++ jn (sepT (tK T)) p i) (c + i * C) (s + i * S) ∧ SA g (d + 1) a T)
    (fun o => ∃ z h', o = (z, h') ∧ ST h' z (t0 ++ (jn (sepT (tK T)) p (tM T) ++ (if tK T = 4 then [41] else []))) ∧ Gw h0 h' nP (c + 3 * C + 3) (s + 3 * S + 4 * lA (d + 1) + 20))
    (fun i st hi hQ => by
      obtain ⟨g, rfl, bg, sg⟩ := hQ
      obtain ⟨a1, a2, a3, a4, a5, a6⟩ := id sg
      have ka : (hpS g a).1 = 13 + 1 := by rw [a3]
      obtain ⟨r1, r2, r3, r4⟩ := a6 hk
      have ji := jn_len (sep := sepT (tK T)) (p := p) (l := lA d + 2) (sep_len _) i (fun j hj => pl j (by omega))
      have ji3 : i * (lA d + 2 + 2) ≤ 2 * (lA d + 2 + 2) := Nat.mul_le_mul_right _ (by omega)
      have pli := pl i hi
      -- the separator, then the part
      have b162 : ∀ (w : Nat) (sp : List Nat), ST g w sp → sp.length ≤ 2 → sp = (if i = 0 then [] else sepT (tK T)) → ∃ g', mX13_all_b162 (mg_X13_all n) a x (nI i) x w g = some (.inl (nI (i + 1), g')) ∧ BL h0 g' x (t0 ++ jn (sepT (tK T)) p (i + 1)) (c + (i + 1) * C) (s + (i + 1) * S) ∧ SA g' (d + 1) a T := fun w sp hw hsp esp => by
        obtain ⟨g1, e1, b1, x1⟩ := bg.app hw (by simp only [List.length_append]; omega)
        have s1 := sg.keepB bg.2.2.1 x1
        obtain ⟨c1, c2, c3, c4, c5, c6⟩ := id s1
        have k1 : (hpS g1 a).1 = 13 + 1 := by rw [c3]
        obtain ⟨v1, v2, v3, v4⟩ := c6 hk
        have ld : ldR 13 (hpR g1 a 2) (nI i) g1 = some (hpR g1 (hpR g1 a 2) i) := ldR_ok (c := 13) v3 hi (by omega)
        have fin : ∀ z g2, ST g2 z (p i) → Gw g1 g2 nP (cA d + 10) (sA d + 60 + 10 * lA d) → ∃ g', mX13_all_b194 (mg_X13_all n) a x (nI i) x z g2 = some (.inl (nI (i + 1), g')) ∧ BL h0 g' x (t0 ++ jn (sepT (tK T)) p (i + 1)) (c + (i + 1) * C) (s + (i + 1) * S) ∧ SA g' (d + 1) a T := fun z g2 st2 x2 => by
          have b2' := b1.sub x2
          obtain ⟨g3, e3, b3, x3⟩ := b2'.app st2 (by simp only [List.length_append]; omega)
          refine ⟨g3, ?_, ?_, (s1.fr x2).keepB b2'.2.2.1 x3⟩
          · unfold mX13_all_b194
            rw [e3, b2s, nI_1]
          · have et : t0 ++ jn (sepT (tK T)) p i ++ sp ++ p i = t0 ++ jn (sepT (tK T)) p (i + 1) := by
              show _ = t0 ++ (jn (sepT (tK T)) p i ++ ((if i = 0 then [] else sepT (tK T)) ++ p i))
              rw [esp, List.append_assoc, List.append_assoc]
            rw [et] at b3
            obtain ⟨w1, w2, w3, w4⟩ := b3
            refine ⟨w1, w2, w3, w4.up (fun _ _ q => q) ?_ ?_⟩
            · have e9 : (i + 1) * C = i * C + C := Nat.succ_mul i C
              omega
            · have e9 : (i + 1) * S = i * S + S := Nat.succ_mul i S
              simp only [List.length_append]
              omega
        unfold mX13_all_b162
        rw [e1, b2s, gI_ok k1, obind, c4, show (4 : Int32) = nI 4 from rfl, c_eqd (by omega) (by omega)]
        by_cases q4 : tK T = 4
        · rw [if_pos q4, gR_ok k1, obind, ld, obind]
          obtain ⟨z, g2, e2, st2, x2⟩ := hA b1.2.1 b1.ge (v4 i hi) (okp i hi)
          rw [e2, b2s]
          exact fin z g2 (by rw [hp]; show ST g2 z (if tK T = 4 then _ else _); rw [if_pos q4]; exact st2) (x2.up (fun _ _ q => q) (by omega) (by omega))
        · rw [if_neg q4, gR_ok k1, obind, ld, obind]
          obtain ⟨z, g2, e2, st2, x2⟩ := hO b1.2.1 b1.ge (v4 i hi) (okp i hi)
          rw [e2, b2s]
          exact fin z g2 (by rw [hp]; show ST g2 z (if tK T = 4 then _ else _); rw [if_neg q4]; exact st2) x2
      have go : ∃ g', mX13_all_l115f (mg_X13_all n) a x (nI i) g = some (.inl (nI (i + 1), g')) ∧ BL h0 g' x (t0 ++ jn (sepT (tK T)) p (i + 1)) (c + (i + 1) * C) (s + (i + 1) * S) ∧ SA g' (d + 1) a T := by
        unfold mX13_all_l115f
        rw [gR_ok ka, obind, aLen_ok r3 rfl, obind, c_lt hi (by omega), c_0 (by omega)]
        by_cases q0 : i = 0
        · rw [if_pos q0]
          exact b162 14 [] st14 (by decide) (by rw [if_pos q0])
        · rw [if_neg q0, gI_ok ka, obind, a4, show (2 : Int32) = nI 2 from rfl, c_eqd (by omega) (by omega)]
          by_cases q2 : tK T = 2
          · rw [if_pos q2]
            exact b162 21 [38] st21 (by decide) (by rw [if_neg q0]; unfold sepT; rw [if_pos q2])
          · rw [if_neg q2, obind, show (3 : Int32) = nI 3 from rfl, c_eqd (by omega) (by omega)]
            by_cases q3 : tK T = 3
            · rw [if_pos q3]
              exact b162 22 [32, 124] st22 (by decide) (by rw [if_neg q0]; unfold sepT; rw [if_neg q2, if_pos q3])
            · rw [if_neg q3]
              exact b162 23 [44] st23 (by decide) (by rw [if_neg q0]; unfold sepT; rw [if_neg q2, if_neg q3])
      obtain ⟨g', e', r⟩ := go
      exact ⟨(nI (i + 1), g'), e', g', rfl, r⟩)
    (fun st hQ => by
      obtain ⟨g, rfl, bg, sg⟩ := hQ
      obtain ⟨a1, a2, a3, a4, a5, a6⟩ := id sg
      have ka : (hpS g a).1 = 13 + 1 := by rw [a3]
      obtain ⟨r1, r2, r3, r4⟩ := a6 hk
      have ji := jl (tM T) (Nat.le_refl _)
      have m3C : tM T * C ≤ 3 * C := Nat.mul_le_mul_right _ m3
      have m3S : tM T * S ≤ 3 * S := Nat.mul_le_mul_right _ m3
      have b220 : ∀ (w : Nat) (sp : List Nat), ST g w sp → sp.length ≤ 1 → sp = (if tK T = 4 then [41] else []) → ∃ z g', mX13_all_b220 (mg_X13_all n) x w g = some (z, g') ∧ ST g' z (t0 ++ (jn (sepT (tK T)) p (tM T) ++ (if tK T = 4 then [41] else []))) ∧ Gw h0 g' nP (c + 3 * C + 3) (s + 3 * S + 4 * lA (d + 1) + 20) := fun w sp hw hsp esp => by
        obtain ⟨g1, e1, b1, x1⟩ := bg.app hw (by simp only [List.length_append]; omega)
        obtain ⟨z2, g2, e2, st2, x2, _⟩ := b1.tos (by simp only [List.length_append]; omega)
        refine ⟨z2, g2, ?_, ?_, x2.up (fun _ _ q => q) (by omega) ?_⟩
        · unfold mX13_all_b220
          rw [e1, b2s, e2, b2s]
        · rw [← esp, ← List.append_assoc]; exact st2
        · simp only [List.length_append]
          omega
      have go : ∃ z g', mX13_all_l115f (mg_X13_all n) a x (nI (tM T)) g = some (.inr (z, g')) ∧ ST g' z (t0 ++ (jn (sepT (tK T)) p (tM T) ++ (if tK T = 4 then [41] else []))) ∧ Gw h0 g' nP (c + 3 * C + 3) (s + 3 * S + 4 * lA (d + 1) + 20) := by
        unfold mX13_all_l115f
        rw [gR_ok ka, obind, aLen_ok r3 rfl, obind, c_nlt (Nat.le_refl _) (by omega), gI_ok ka, obind, a4, show (4 : Int32) = nI 4 from rfl, c_eqd (by omega) (by omega)]
        by_cases q4 : tK T = 4
        · rw [if_pos q4]
          obtain ⟨z, g', e', r⟩ := b220 19 [41] st19 (by decide) (by rw [if_pos q4])
          exact ⟨z, g', by rw [e', xts], r⟩
        · rw [if_neg q4]
          obtain ⟨z, g', e', r⟩ := b220 14 [] st14 (by decide) (by rw [if_neg q4])
          exact ⟨z, g', by rw [e', xts], r⟩
      obtain ⟨z, g', e', r⟩ := go
      exact ⟨(z, g'), e', z, g', rfl, r⟩)
    (s := (nI 0, h)) ⟨h, rfl, by
      have : t0 ++ jn (sepT (tK T)) p 0 = t0 := List.append_nil _
      rw [this, Nat.zero_mul, Nat.zero_mul]; exact b, hs⟩
  rw [hCc, hS] at ex
  exact ⟨z, h', e, st, ex⟩
theorem jn_cg {sep : List Nat} {p q : Nat → List Nat} : ∀ n, (∀ i, i < n → p i = q i) → jn sep p n = jn sep q n
  | 0, _ => rfl
  | n + 1, hp => by
    show jn sep p n ++ ((if n = 0 then [] else sep) ++ p n) = jn sep q n ++ ((if n = 0 then [] else sep) ++ q n)
    rw [jn_cg n (fun i hi => hp i (by omega)), hp n (by omega)]
theorem all_s (hd : d < 2) (hA : ∀ n, 2 * d + 1 ≤ n → allA d n) (hO : ∀ n, 2 * d + 2 ≤ n → allO d n) (hn : 2 * (d + 1) ≤ n) : allA (d + 1) (n + 1) := by
  intro h a T hC h433 hs hT
  obtain ⟨a1, a2, a3, a4, a5, a6⟩ := id hs
  obtain ⟨k5, f4, q3, o4⟩ := id hT
  have ka : (hpS h a).1 = 13 + 1 := by rw [a3]
  have l100 := lA_le (d := d) (by omega)
  have l1 : lA (d + 1) = 8 + 3 * (lA d + 4) := rfl
  have c1 : cA (d + 1) = 3 * (cA d + 12) + 20 := rfl
  have s1 : sA (d + 1) = 3 * (sA d + 70 + 10 * lA d + 4 * lA (d + 1)) + 200 + 8 * lA (d + 1) := rfl
  show ∃ z h', mX13_all_F (mg_X13_all n) a h = some (z, h') ∧ ST h' z (if tK T = 0 then [97 + tF T] else if tK T = 1 then 33 :: wr (kd d (tP T 0)) (tA d (tP T 0)) else if tK T = 4 then (dcm (tF T) ++ [32, 111, 102, 32, 40]) ++ (jn [44] (fun i => tA d (tP T i)) (tM T) ++ [41]) else jn (sepT (tK T)) (fun i => wr (kd d (tP T i)) (tA d (tP T i))) (tM T)) ∧ _
  unfold mX13_all_F
  rw [if_pos ka, gI_ok ka, obind, a4, c_0 (by omega)]
  by_cases q0 : tK T = 0
  · rw [if_pos q0, if_pos q0]
    obtain ⟨z, h', e, st, ex⟩ := leaf_ok hC h433 ka a2 a5 (f4 q0)
    exact ⟨z, h', e, st, ex.up (fun _ _ q => q) (by omega) (by omega)⟩
  · rw [if_neg q0, if_neg q0, obind, c_1 (by omega)]
    obtain ⟨m1, m3, m4, m2, okp⟩ := q3 q0
    by_cases q1 : tK T = 1
    · rw [if_pos q1, if_pos q1]
      obtain ⟨g1, e1, b1⟩ := BL.new hC h433
      obtain ⟨g2, e2, b2', x2⟩ := b1.app (u := [33]) st17 (by decide)
      have s2 := (hs.fr b1.2.2.2).keepB b1.2.2.1 x2
      obtain ⟨z1, z2, z3, z4, z5, z6⟩ := id s2
      have k2 : (hpS g2 a).1 = 13 + 1 := by rw [z3]
      obtain ⟨r1, r2, r3, r4⟩ := z6 q0
      have ld : ldR 13 (hpR g2 a 2) (nI 0) g2 = some (hpR g2 (hpR g2 a 2) 0) := ldR_ok (c := 13) r3 (by omega) (by omega)
      have ld : ldR 13 (hpR g2 a 2) (0 : Int32) g2 = some (hpR g2 (hpR g2 a 2) 0) := ld
      obtain ⟨z, g3, e3, st3, x3⟩ := hO n (by omega) b2'.2.1 b2'.ge (r4 0 (by omega)) (okp 0 (by omega))
      have b3 := b2'.sub x3
      have ol : (tO d (tP T 0)).length ≤ lA d + 2 := by
        have := wr_len (kd d (tP T 0)) (tA d (tP T 0))
        have := tA_len (okp 0 (by omega))
        unfold tO; omega
      obtain ⟨g4, e4, b4, x4⟩ := b3.app st3 (by simp only [List.length_append, List.length_nil, List.length_cons]; omega)
      obtain ⟨z6, g6, e6, st6, x6, _⟩ := b4.tos (by simp only [List.length_append, List.length_nil, List.length_cons]; omega)
      refine ⟨z6, g6, ?_, st6, x6.up (fun _ _ q => q) (by omega) ?_⟩
      · rw [e1, e2, b2s, gR_ok k2, obind, ld, obind, e3, b2s, e4, b2s, e6, b2s]
      · simp only [List.length_append, List.length_nil, List.length_cons]; omega
    · rw [if_neg q1, if_neg q1]
      obtain ⟨eu, u0, x0⟩ := ub_ok hC h433
      obtain ⟨g0, hg0⟩ : ∃ g0, g0 = hpNew 17 4 h := ⟨_, rfl⟩
      rw [← hg0] at eu u0 x0
      have C0 := hC.ex x0
      have N0 : hpN g0 = hpN h + 1 := by rw [hg0]; rfl
      have sg0 := hs.fr x0
      obtain ⟨_, _, w3, w4, w5, _⟩ := id sg0
      have k0 : (hpS g0 a).1 = 13 + 1 := by rw [w3]
      -- the builder once its first String is there
      have fin : ∀ (z : Nat) (t0 : List Nat) (g : Hp) (cc ss : Nat), Gw h g nP cc ss → ST g z t0 → UB g (hpN h) → CLO g → SA g (d + 1) a T → t0.length ≤ 6 → cc ≤ 8 → ss ≤ 60 →
          ∃ y h', mX13_all_b109 (mg_X13_all n) a (hpN h) (hpN h) z g = some (y, h') ∧ ST h' y (t0 ++ (jn (sepT (tK T)) (fun i => if tK T = 4 then tA d (tP T i) else tO d (tP T i)) (tM T) ++ (if tK T = 4 then [41] else []))) ∧ Gw h h' nP (cA (d + 1)) (sA (d + 1)) := by
        intro z t0 g cc ss xg sz ug Cg sg lt0 hcc hss
        obtain ⟨g7, e7, sb7, x7⟩ := inis_ok Cg ug sz (by omega)
        have b7 : BL h g7 (hpN h) t0 (cc + 2) (ss + (3 * t0.length + 18)) := ⟨Nat.le_refl _, Cg.ex x7, sb7, xg.tr x7 (fun a' ha' q => by have : a' = hpN h := q; omega)⟩
        have s7 := sg.ex x7 (fun a' _ _ hk q => by
          have : a' = hpN h := q
          rw [this, ug.2.2.1] at hk; exact absurd hk (by decide))
        obtain ⟨y, h', e, st, ex⟩ := parts_ok (p0 := 0) (m := 0) hd (hA n (by omega)) (hO n (by omega)) hT q0 q1 b7 s7 lt0
        refine ⟨y, h', ?_, st, ex.up (fun _ _ q => q) (by omega) (by omega)⟩
        unfold mX13_all_b109
        rw [if_neg (by omega), e7, obind, e]
      rw [eu, b2s, gI_ok k0, obind, w4, show (4 : Int32) = nI 4 from rfl, c_eqd (by omega) (by omega)]
      by_cases q4 : tK T = 4
      · rw [if_pos q4, if_pos q4]
        have of3 : tF T ≤ 3 := by have := o4 q4; omega
        have d1 : (dcm (tF T)).length = 1 := by rw [dig_len, if_pos (by omega)]
        obtain ⟨g1, e1, b1⟩ := BL.new C0 (by omega)
        have m1' := b1.2.2.2.sm (a := a) (by omega) (fun q => q)
        have k1 : (hpS g1 a).1 = 13 + 1 := by rw [m1'.1]; exact k0
        have f1 : hpI g1 a 1 = nI (tF T) := by rw [m1'.2.1]; exact w5
        obtain ⟨g2, e2, b2', x2⟩ := b1.num (v := tF T) (by omega) (by decide)
        obtain ⟨g3, e3, b3, x3⟩ := b2'.app (u := [32, 111, 102, 32, 40]) st20 (by simp only [List.length_append, List.length_nil, List.length_cons]; omega)
        obtain ⟨z4, g4, e4, st4, x4, x5, _⟩ := b3.tos (by simp only [List.length_append, List.length_nil, List.length_cons]; omega)
        have xh := x0.tr x4 (P := nP) (fun _ _ q => q)
        have ug := ((u0.fr b1.2.2.2))
        have n1 : hpN h ≠ hpN g0 := by omega
        have ug2 := UB.keepB b1.2.2.1 ug n1 x2
        have ug3 := UB.keepB b2'.2.2.1 ug2 n1 x3
        have ug4 := ug3.fr x5
        have t4 : [] ++ dcm (tF T) ++ [32, 111, 102, 32, 40] = dcm (tF T) ++ [32, 111, 102, 32, 40] := rfl
        rw [t4] at st4
        obtain ⟨y, h', e, st, ex⟩ := fin z4 (dcm (tF T) ++ [32, 111, 102, 32, 40]) g4 _ _ xh st4 ug4 (C0.ex x4) (sg0.fr x4) (by simp only [List.length_append, List.length_cons, List.length_nil]; omega) (by omega) (by simp only [List.length_append, List.length_cons, List.length_nil]; omega)
        refine ⟨y, h', ?_, ?_, ex⟩
        · rw [e1, gI_ok k1, obind, f1, e2, b2s, e3, b2s, e4, b2s]
          exact e
        · rw [if_pos q4] at st
          have es : sepT (tK T) = [44] := by unfold sepT; rw [if_neg (by omega), if_neg (by omega)]
          rw [es, jn_cg (q := fun i => tA d (tP T i)) (tM T) (fun i _ => if_pos q4)] at st
          exact st
      · rw [if_neg q4, if_neg q4]
        obtain ⟨y, h', e, st, ex⟩ := fin 14 [] g0 1 4 x0 st14 u0 C0 sg0 (by decide) (by omega) (by omega)
        refine ⟨y, h', e, ?_, ex⟩
        have ej := jn_cg (sep := sepT (tK T)) (p := fun i => if tK T = 4 then tA d (tP T i) else tO d (tP T i)) (q := fun i => wr (kd d (tP T i)) (tA d (tP T i))) (tM T) (fun i _ => if_neg q4)
        rw [if_neg q4, List.append_nil, List.nil_append, ej] at st
        exact st
theorem all_0 (n : Nat) : allA 0 (n + 1) := by
  intro h a T hC h433 hs hT
  obtain ⟨a1, a2, a3, a4, a5⟩ := id hs
  have ka : (hpS h a).1 = 13 + 1 := by rw [a3]
  show ∃ z h', mX13_all_F (mg_X13_all n) a h = some (z, h') ∧ _
  unfold mX13_all_F
  rw [if_pos ka, gI_ok ka, obind, a4, if_pos rfl]
  obtain ⟨z, h', e, st, ex⟩ := leaf_ok hC h433 ka a2 a5 hT
  exact ⟨z, h', e, st, ex⟩
theorem all_d : ∀ d, d ≤ 2 → (∀ n, 2 * d + 1 ≤ n → allA d n) ∧ (∀ n, 2 * d + 2 ≤ n → allO d n)
  | 0, _ => by
    have h1 : ∀ n, 2 * 0 + 1 ≤ n → allA 0 n := fun n hn => by
      obtain ⟨m, rfl⟩ : ∃ m, n = m + 1 := ⟨n - 1, by omega⟩
      exact all_0 m
    refine ⟨h1, fun n hn => ?_⟩
    obtain ⟨m, rfl⟩ : ∃ m, n = m + 1 := ⟨n - 1, by omega⟩
    exact one_of (by omega) (h1 m (by omega))
  | d + 1, hd => by
    obtain ⟨i1, i2⟩ := all_d d (by omega)
    have h1 : ∀ n, 2 * (d + 1) + 1 ≤ n → allA (d + 1) n := fun n hn => by
      obtain ⟨m, rfl⟩ : ∃ m, n = m + 1 := ⟨n - 1, by omega⟩
      exact all_s (by omega) i1 i2 (by omega)
    refine ⟨h1, fun n hn => ?_⟩
    obtain ⟨m, rfl⟩ : ∃ m, n = m + 1 := ⟨n - 1, by omega⟩
    exact one_of hd (h1 m (by omega))
/-- all, as the law calls it -/
theorem l_all {T : Tr d} (hd : d ≤ 2) (hC : CLO h) (h433 : 433 ≤ hpN h) (hs : SA h d a T) (hT : okT 8 d T) : ∃ z h', mX13_all 40 a h = some (z, h') ∧ ST h' z (tA d T) ∧ Gw h h' nP (cA d) (sA d) :=
  (all_d d hd).1 40 (by omega) hC h433 hs hT
end F5
