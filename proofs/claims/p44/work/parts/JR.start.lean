/-! THE WHOLE LAW ON THE PURE HEAP -/
/-- at the start: the script, the table of seats -/
def S0 (m : Nat) (I : Nat → Nat → Int32) (L : Nat → Nat → Int64) : Hp := ((fun a => if a = 1 then (80, m) else if a = 2 then (81, 6) else (0, 0)), I, L, fun _ _ => 0, 99, 0)
def n0 (m : Nat) : En := (fun a => if a = 99 then (16, 12) else if a = 1 then (80, m) else (0, 0), fun _ _ => 0, 0, 0)
section JR
variable {n : En} {k M a s m c j v la : Nat} {l : List (Nat × Nat × Nat)} {I : Nat → Nat → Int32} {L : Nat → Nat → Int64} {h h1 : Hp}
theorem S0_new (hZ : ∀ x, 99 ≤ x → I x = (fun _ => 0) ∧ L x = fun _ => 0) : hpNew 16 12 (S0 m I L) = Qh (n0 m) 100 12 [] I L := by
  have e1 : (fun a => if a = 99 then ((16, 12) : Nat × Nat) else if a = 1 then (80, m) else if a = 2 then (81, 6) else (0, 0)) = fun a => if a < 100 then SH (n0 m) a else (0, 0) := by
    funext a
    by_cases q : a < 100
    · rw [if_pos q]
      unfold SH
      rw [if_neg (show ¬ (100 ≤ a ∧ a < 433) by omega)]
      show _ = if a = 2 then (81, 6) else if a = 99 then (16, 12) else if a = 1 then (80, m) else (0, 0)
      by_cases q2 : a = 2
      · subst q2; rfl
      · rw [if_neg q2, if_neg q2]
    · rw [if_neg q, if_neg (by omega), if_neg (by omega), if_neg (by omega)]
  have e2 : (fun a j => if a = 99 then 0 else I a j) = I := by
    funext a j
    by_cases e : a = 99
    · subst e; rw [if_pos rfl, (hZ 99 (by omega)).1]
    · rw [if_neg e]
  have e3 : (fun a j => if a = 99 then 0 else L a j) = L := by
    funext a j
    by_cases e : a = 99
    · subst e; rw [if_pos rfl, (hZ 99 (by omega)).2]
    · rw [if_neg e]
  have e4 : (fun a (_ : Nat) => if a = 99 then 0 else (0 : Nat)) = fun a j => lookR a j [] := by
    funext a j
    show (if a = 99 then 0 else (0 : Nat)) = 0
    split <;> rfl
  show ((fun a => if a = 99 then ((16, 12) : Nat × Nat) else if a = 1 then (80, m) else if a = 2 then (81, 6) else (0, 0)), (fun a j => if a = 99 then 0 else I a j), (fun a j => if a = 99 then 0 else L a j), (fun a (_ : Nat) => if a = 99 then 0 else (0 : Nat)), 100, 12) = _
  rw [e1, e2, e3, e4]
  rfl
theorem Gw.wR {c s : Nat} (e : Gw h h1 PL c s) {a k v : Nat} (ha : PL a) (h17 : (hpS h1 a).1 ≠ 17) (h18 : (hpS h1 a).1 ≠ 18) : Gw h (CStruckCountsLaw_law_r5327_fb6219.wR h1 a k v) PL c s := e.sR (fun _ => ha) fun q => by
  rcases q with q | q
  · exact absurd q h17
  · exact absurd q h18
theorem Gw.wI {c s : Nat} (e : Gw h h1 PL c s) {a k : Nat} {v : Int32} (ha : PL a) : Gw h (CStruckCountsLaw_law_r5327_fb6219.wI h1 a k v) PL c s := e.sI fun _ => ha
theorem hF_gw (he : n.1 99 = (16, 12)) : Gw (hk (sg0 (n9 n M)) I L) (hF (hk (sg0 (n9 n M)) I L)) PL 9 44 := by
  obtain ⟨h0, hh0⟩ : ∃ h0, h0 = hk (sg0 (n9 n M)) I L := ⟨_, rfl⟩
  have e99 : (hpS h0 99).1 = 16 := by rw [hh0]; show (n.1 99).1 = 16; rw [he]
  have eN : hpN h0 = 433 := by rw [hh0]; rfl
  rw [← hh0]
  have p99 : PL 99 := Or.inl rfl
  have nA : hpN (CStruckCountsLaw_law_r5327_fb6219.wR h0 99 0 100) = 433 := eN
  have k1 : (hpS (hpNew 50 8 (CStruckCountsLaw_law_r5327_fb6219.wR h0 99 0 100)) 99).1 = 16 := by rw [nw_S, if_neg (by omega)]; exact e99
  have g3 : Gw h0 (hB h0) PL 1 8 := (((Gw.rf 0 0 : Gw h0 h0 PL 0 0).wR (k := 0) (v := 100) p99 (by omega) (by omega)).nw 50 8).wR p99 (by omega) (by omega)
  have nB : hpN (hB h0) = 434 := by show hpN h0 + 1 = 434; omega
  have l1 : (hpS (CStruckCountsLaw_law_r5327_fb6219.wI (hpNew 19 3 (hB h0)) (hpN (hB h0)) 0 0) (hpN (hB h0))).1 = 19 := by show (hpS (hpNew 19 3 (hB h0)) (hpN (hB h0))).1 = 19; rw [nw_S, if_pos rfl]
  have k2 : (hpS (nls (hB h0)) 99).1 = 16 := by
    show (hpS (hpNew 19 3 (hB h0)) 99).1 = 16
    rw [nw_S, if_neg (by omega)]; exact k1
  have g4 : Gw h0 (nls (hB h0)) PL 2 11 := ((g3.nw 19 3).wI (Or.inr (by omega))).wR (Or.inr (by omega)) (by omega) (by omega)
  have g5 : Gw h0 (hC h0) PL 2 11 := g4.wR p99 (by omega) (by omega)
  have nC : hpN (hC h0) = 435 := by show hpN (hB h0) + 1 = 435; omega
  have k3 : (hpS (hpMul (hC h0)) 99).1 = 16 := by
    show (if 99 = hpN (hC h0) then (79, 5) else if hpN (hC h0) ≤ 99 ∧ 99 < hpN (hC h0) + 6 then (52, 5) else (hC h0).1 99 : Nat × Nat).1 = 16
    rw [if_neg (by omega), if_neg (by omega)]; exact k2
  have g6 : Gw h0 (hD h0) PL 8 41 := g5.mul.wR p99 (by omega) (by omega)
  have nD : hpN (hD h0) = 441 := by show hpN (hC h0) + 6 = 441; omega
  have l2 : (hpS (CStruckCountsLaw_law_r5327_fb6219.wI (hpNew 19 3 (hD h0)) (hpN (hD h0)) 0 0) (hpN (hD h0))).1 = 19 := by show (hpS (hpNew 19 3 (hD h0)) (hpN (hD h0))).1 = 19; rw [nw_S, if_pos rfl]
  have k4 : (hpS (nls (hD h0)) 99).1 = 16 := by
    show (hpS (hpNew 19 3 (hD h0)) 99).1 = 16
    rw [nw_S, if_neg (by omega)]; exact k3
  have g7 : Gw h0 (nls (hD h0)) PL 9 44 := ((g6.nw 19 3).wI (Or.inr (by omega))).wR (Or.inr (by omega)) (by omega) (by omega)
  exact (g7.wR p99 (by omega) (by omega)).wR p99 (show (hpS (nls (hD h0)) 99).1 ≠ 17 by omega) (show (hpS (nls (hD h0)) 99).1 ≠ 18 by omega)
theorem hF_ws (he : n.1 99 = (16, 12)) (h1 : n.1 1 = (80, m)) (hm : m ≤ 260) : LWs (hF (hk (sg0 (n9 n M)) I L)) 433 434 435 441 0 := by
  refine ⟨by show (433 : Nat) ≤ 442; omega, ⟨by show n.1 99 = _; exact he, rfl, rfl, rfl, rfl, rfl, rfl, rfl⟩, ⟨m, hm, by show n.1 1 = _; exact h1⟩, ⟨Nat.le_refl _, by show (433 : Nat) < 442; omega, rfl⟩, ⟨by omega, by show (435 : Nat) < 442; omega, rfl, fun i hi => ?_⟩, ⟨by omega, by show (441 : Nat) < 442; omega, rfl, rfl, rfl⟩, by omega⟩
  rcases (show i = 0 ∨ i = 1 ∨ i = 2 ∨ i = 3 ∨ i = 4 by omega) with rfl | rfl | rfl | rfl | rfl
  · exact ⟨by show (433 : Nat) ≤ 436; omega, by show (436 : Nat) < 442; omega, rfl⟩
  · exact ⟨by show (433 : Nat) ≤ 437; omega, by show (437 : Nat) < 442; omega, rfl⟩
  · exact ⟨by show (433 : Nat) ≤ 438; omega, by show (438 : Nat) < 442; omega, rfl⟩
  · exact ⟨by show (433 : Nat) ≤ 439; omega, by show (439 : Nat) < 442; omega, rfl⟩
  · exact ⟨by show (433 : Nat) ≤ 440; omega, by show (440 : Nat) < 442; omega, rfl⟩
theorem h9_clo (h0 : ∀ a, (n.1 a).1 ≠ 17 ∧ (n.1 a).1 ≠ 18) : CLO (hk (sg0 (n9 n M)) I L) := by
  have hS : ∀ a, a < 433 → 100 ≤ a → (SH0 a).1 ≠ 17 ∧ (SH0 a).1 ≠ 18 := by decide +kernel
  refine ⟨by show (99 : Nat) ≤ 433; omega, fun a ha hk' => ?_⟩
  have ha : a < 433 := ha
  unfold txk at hk'
  rw [hpS_hk] at hk'
  unfold SH at hk'
  exfalso
  by_cases q : 100 ≤ a ∧ a < 433
  · rw [if_pos q] at hk'
    have := hS a ha q.1
    omega
  · rw [if_neg q] at hk'
    by_cases q2 : a = 2
    · rw [if_pos q2] at hk'
      have hk' : (81 : Nat) = 17 ∨ (81 : Nat) = 18 := hk'
      omega
    · rw [if_neg q2] at hk'
      have hk' : (if a < 433 then n.1 a else (0, 0)).1 = 17 ∨ (if a < 433 then n.1 a else (0, 0)).1 = 18 := hk'
      rw [if_pos ha] at hk'
      have := h0 a
      omega
theorem law_pure (hm : m ≤ 260) (hZ : ∀ x, 99 ≤ x → I x = (fun _ => 0) ∧ L x = fun _ => 0) (hO : SOk L) : ∃ hf, mL_law 1 (S0 m I L) = some (1, hf) ∧ hpN hf ≤ 600000 ∧ hpM hf ≤ 7302250 := by
  obtain ⟨I6, L6, ce, clw, rs, thh, f6, g6⟩ := cls_ok (n := n0 m) (fun x hx => hZ x (by omega)) hO
  obtain ⟨h0, hh0⟩ : ∃ h0, h0 = hk (sg0 (n9 (n0 m) 21415)) I6 L6 := ⟨_, rfl⟩
  have he : (n0 m).1 99 = (16, 12) := rfl
  have kn : ∀ a, ((n0 m).1 a).1 ≠ 17 ∧ ((n0 m).1 a).1 ≠ 18 := fun a => by
    show (if a = 99 then (16, 12) else if a = 1 then (80, m) else (0, 0) : Nat × Nat).1 ≠ 17 ∧ (if a = 99 then (16, 12) else if a = 1 then (80, m) else (0, 0) : Nat × Nat).1 ≠ 18
    by_cases q : a = 99
    · rw [if_pos q]; exact ⟨by show (16 : Nat) ≠ 17; omega, by show (16 : Nat) ≠ 18; omega⟩
    · rw [if_neg q]
      by_cases q2 : a = 1
      · rw [if_pos q2]; exact ⟨by show (80 : Nat) ≠ 17; omega, by show (80 : Nat) ≠ 18; omega⟩
      · rw [if_neg q2]; exact ⟨by show (0 : Nat) ≠ 17; omega, by show (0 : Nat) ≠ 18; omega⟩
  have gw := hF_gw (M := 21415) (I := I6) (L := L6) he
  have ws : LWs (hF h0) 433 434 435 441 0 := by rw [hh0]; exact hF_ws he rfl hm
  have cl : CLO (hF h0) := by rw [hh0]; exact (h9_clo kn).ex gw
  have al : AL (hF h0) 434 0 (fun _ => 0) := by
    rw [hh0]
    exact ⟨by omega, by show (434 : Nat) < 442; omega, rfl, rfl, by omega, Or.inl ⟨rfl, rfl⟩⟩
  have i99 : hpI (hF h0) 99 = fun _ => 0 := by
    rw [hh0]
    show I6 99 = _
    rw [f6 99 (by omega) (by omega) (by omega) (by omega)]
    exact (hZ 99 (by omega)).1
  have li : LWi (hF h0) 0 0 0 := by
    unfold LWi
    rw [i99]
    exact ⟨rfl, rfl, rfl⟩
  obtain ⟨σ, eh, s1, s2, s3, s4, s5, s6, gn, fr⟩ := hk_of gw (by show (433 : Nat) ≤ 433; omega) (fun a ha => by unfold PL; omega)
  rw [← hh0] at eh gn fr
  obtain ⟨I7, hI7⟩ : ∃ I7, I7 = hpI (hF h0) := ⟨_, rfl⟩
  obtain ⟨L7, hL7⟩ : ∃ L7, L7 = hpL (hF h0) := ⟨_, rfl⟩
  rw [← hI7] at eh fr
  rw [← hL7] at eh fr
  have k16 : (hpS (hE h0) 99).1 = 16 := by rw [hh0]; exact congrArg Prod.fst he
  have e0 : sR 15 1 99 1 (hE h0) = some (hk σ I7 L7) := by
    rw [sR_w k16, ← eh]
    rfl
  have i7 : ∀ x, 100 ≤ x → x < 433 → I7 x = I6 x := fun x a b => (fr x (Or.inr ⟨a, b⟩)).1
  have l7 : ∀ x, (x = 2 ∨ (100 ≤ x ∧ x < 433)) → L7 x = L6 x := fun x a => (fr x a).2
  have z7 : ∀ x, 123 ≤ x → x < 421 → I7 x = fun _ => 0 := fun x a b => by rw [i7 x (by omega) (by omega), f6 x (by omega) (by omega) (by omega) (by omega)]; exact (hZ x (by omega)).1
  have z0 : ∀ x, 100 ≤ x → x < 107 → I7 x = fun _ => 0 := fun x a b => by rw [i7 x (by omega) (by omega), f6 x (by omega) (by omega) (by omega) (by omega)]; exact (hZ x (by omega)).1
  have hW : WT T00 := sp0.wt (by show (0 : Nat) < 1000; omega) (by show (0 : Nat) ≤ 480; omega)
  obtain ⟨_, r, _, hr, _⟩ := clear_ok (σ := sg0 (n0 m)) (I := fun _ _ => 0) (L := fun _ _ => 0) (la := 112) (Or.inl rfl)
  have cst : CSt (fun _ _ => 0) 268 (bgN T00) := (sd0 (I := fun _ _ => 0) (L := fun _ => r) (la := 112) (s := 268) (fun _ _ => rfl) (fun _ _ => ⟨rfl, rfl⟩) (fun _ _ => ⟨rfl, rfl⟩) hr (fun _ _ => rfl)).cst (Or.inl rfl) (by show (0 : Nat) ≤ 5; omega)
  have sg : SG σ := by
    unfold SG
    rw [s1, s2, s3, s4]
    exact ⟨Or.inl rfl, Or.inr rfl, by show ¬ (112 : Nat) = 190; omega, Or.inl rfl, by show (268 : Nat) < 282; omega, Or.inr (Or.inl rfl), by show (275 : Nat) < 282; omega, by show ¬ (268 : Nat) = 275; omega⟩
  have sa : gsa σ = 268 := s3
  have sl : gla σ = 112 := s1
  have cr : CR σ I7 L7 T00 (bgN T00) := by
    unfold CR
    rw [sa, sl]
    refine ⟨⟨Or.inl rfl, Or.inl rfl, fun f hf => ?_⟩, hW, (bg_EX hW).1, ?_, ?_⟩
    · rw [l7 2 (Or.inl rfl), g6 2 (by omega) (by omega)]; exact hO f hf
    · exact clw.eq2 (la := 112) (Or.inl rfl) hW (fun j hj => i7 _ (by omega) (by omega)) (fun j hj => l7 _ (Or.inr ⟨by omega, by omega⟩))
    · exact cst.eq fun x a b => z7 x (by have a : 268 ≤ x := a; omega) (by have b : x < 268 + 7 := b; omega)
  have cb : CB σ I7 L7 T00 (bgN T00) 0 (fun _ _ => 0) (fun _ => false) (fun _ _ => 0) := by
    refine ⟨cr, bg_EX hW, ⟨by rw [sa]; omega, ⟨by omega, ?_, ?_⟩, ⟨?_, fun i _ z => by cases z⟩, fun j hj => absurd hj (Nat.not_lt_zero _), fun i _ z => by cases z⟩, fun w hw => ?_⟩
    · rw [z7 285 (by omega) (by omega)]; rfl
    · exact ⟨0, by omega, by rw [z7 285 (by omega) (by omega)]; rfl, fun j hj => absurd hj (Nat.not_lt_zero _)⟩
    · rw [z7 285 (by omega) (by omega)]; rfl
    · rw [i7 421 (by omega) (by omega)]; exact thh w hw
  have tc : TC I7 (fun _ => 0) 0 := ⟨by omega, by rw [z0 101 (by omega) (by omega)]; rfl, fun i hi => absurd hi (Nat.not_lt_zero _)⟩
  have hs : HS σ I7 L7 433 434 435 441 0 0 442 21459 := by
    refine ⟨?_, ⟨0, 0, ?_⟩, ⟨sg, fun w hw => by rw [i7 107 (by omega) (by omega)]; exact rs w hw, ⟨_, _, _, _, _, _, cb⟩, _, _, tc⟩, ?_⟩
    · rw [← eh]; exact ⟨ws, ⟨0, _, al⟩, cl⟩
    · rw [← eh]; exact li
    · unfold SZ
      rw [gn, hh0]
      exact ⟨Nat.le_refl _, Nat.le_refl _⟩
  obtain ⟨hf, e2, b1, b2'⟩ := holds3_ok k16 e0 hs
  refine ⟨hf, ?_, by omega, by omega⟩
  unfold mL_law
  rw [newO_ok 15 12 (show 99 ≤ hpN (S0 m I L) from Nat.le_refl _), b2s, show hpN (S0 m I L) = 99 from rfl, S0_new hZ]
  unfold mL_init
  rw [newO_Q (by omega) (by rfl) (hZ _ (by omega)) (by unfold lB; decide +kernel), b2s]
  have q := chain_ok (M := 21415) (I := I6) (L := L6) he (fun h21 => some h21)
  rw [← hh0] at q ce
  show (((mX11_init 100 (Qh (n0 m) 101 30 [] I L)).bind _).bind _) = _
  rw [ce, obind, q, obind, e2, b2s, z01, if_pos (Or.inr rfl), obind]
end JR
