/-! THE LAW IS MADE -/
theorem bg0 (i : Nat) : bgN T00 i = 0 := by
  unfold bgN bgk
  by_cases q : i = 18
  · rw [if_pos q]; rfl
  · rw [if_neg q, if_neg (fun z => by have : T00 2 = 0 := rfl; omega)]
theorem Gw.mul {h h1 : Hp} {P : Nat → Prop} {c s : Nat} (e : Gw h h1 P c s) : Gw h (hpMul h1) P (c + 6) (s + 30) := by
  obtain ⟨⟨a1, a2, a3, a4⟩, a5, a6⟩ := e
  have eN : hpN (hpMul h1) = hpN h1 + 6 := rfl
  have eM : hpM (hpMul h1) = hpM h1 + 30 := rfl
  have lo : ∀ a, a < hpN h1 → Sm h1 (hpMul h1) a := fun a ha => by
    refine ⟨?_, ?_, ?_, ?_⟩
    · show (if a = hpN h1 then _ else if hpN h1 ≤ a ∧ a < hpN h1 + 6 then _ else h1.1 a) = h1.1 a
      rw [if_neg (by omega), if_neg (by omega)]
    · funext k
      show (if hpN h1 ≤ a ∧ a < hpN h1 + 6 then _ else _) = _
      rw [if_neg (by omega)]; rfl
    · funext k
      show (if hpN h1 ≤ a ∧ a < hpN h1 + 6 then _ else _) = _
      rw [if_neg (by omega)]; rfl
    · funext k
      show (if a = hpN h1 then _ else if hpN h1 ≤ a ∧ a < hpN h1 + 6 then _ else _) = _
      rw [if_neg (by omega), if_neg (by omega)]; rfl
  refine ⟨⟨by rw [eN]; omega, by rw [eN]; omega, by rw [eM]; omega, by rw [eM]; omega⟩, fun a ha hn => ?_, fun a ha hk' => ?_⟩
  · obtain ⟨c1, c2, c3, c4⟩ := a5 a ha hn
    obtain ⟨d1, d2, d3, d4⟩ := lo a (by omega)
    exact ⟨by rw [d1]; exact c1, by rw [d2]; exact c2, by rw [d3]; exact c3, by rw [d4]; exact c4⟩
  · by_cases q : a < hpN h1
    · obtain ⟨d1, d2, d3, d4⟩ := lo a q
      have hk2 : txk h1 a := by unfold txk at hk' ⊢; rw [d1] at hk'; exact hk'
      rw [d4]
      rcases a6 a q hk2 with z | z | ⟨z1, z2⟩
      · exact Or.inl z
      · exact Or.inr (Or.inl z)
      · exact Or.inr (Or.inr ⟨z1, by rw [eN]; omega⟩)
    · rw [eN] at ha
      unfold txk at hk'
      have e1 : (hpS (hpMul h1) a).1 = 79 ∨ (hpS (hpMul h1) a).1 = 52 := by
        show (if a = hpN h1 then (79, 5) else if hpN h1 ≤ a ∧ a < hpN h1 + 6 then (52, 5) else h1.1 a : Nat × Nat).1 = 79 ∨ (if a = hpN h1 then (79, 5) else if hpN h1 ≤ a ∧ a < hpN h1 + 6 then (52, 5) else h1.1 a : Nat × Nat).1 = 52
        by_cases z : a = hpN h1
        · rw [if_pos z]; exact Or.inl rfl
        · rw [if_neg z, if_pos (by omega)]; exact Or.inr rfl
      omega
def wR (h : Hp) (a k v : Nat) : Hp := setR h a (updA (hpR h a) k v)
def wI (h : Hp) (a k : Nat) (v : Int32) : Hp := setI h a (updA (hpI h a) k v)
def nls (h : Hp) : Hp := wR (wI (hpNew 19 3 h) (hpN h) 0 0) (hpN h) 1 4
def hB (h : Hp) : Hp := wR (hpNew 50 8 (wR h 99 0 100)) 99 6 433
def hC (h : Hp) : Hp := wR (nls (hB h)) 99 7 434
def hD (h : Hp) : Hp := wR (hpMul (hC h)) 99 8 435
def hE (h : Hp) : Hp := wR (nls (hD h)) 99 11 441
def hF (h : Hp) : Hp := wR (hE h) 99 1 1
theorem sR_w {c k a x : Nat} {h : Hp} (hs : (hpS h a).1 = c + 1) : sR c k a x h = some (wR h a k x) := sR_ok hs
theorem ini_list {h : Hp} {a : Nat} (k : (hpS h a).1 = 18 + 1) : mJx4a65c_init_da8c8 a h = some (wR (wI h a 0 0) a 1 4) := by
  unfold mJx4a65c_init_da8c8 mJxc12de_init_da8c8 mJxa1e45_init_da8c8
  rw [obind, sI_ok k, obind, obind]
  have k2 : (hpS (setI h a (updA (hpI h a) 0 0)) a).1 = 18 + 1 := k
  rw [sR_ok k2, obind]
  rfl
section JQ
variable {n : En} {k M a s m c j v la : Nat} {l : List (Nat × Nat × Nat)} {I : Nat → Nat → Int32} {L : Nat → Nat → Int64}
theorem chain_ok (he : n.1 99 = (16, 12)) {ρ : Type} (K : Hp → Option ρ) :
    ((sR 15 0 99 100 (hk (sg0 (n9 n M)) I L)).bind fun h5 =>
  b2 (newA 50 8 h5) fun v7 h6 =>
  (sR 15 6 99 v7 h6).bind fun h8 =>
  b2 (newO 18 3 h8) fun v10 h9 =>
  (mJx4a65c_init_da8c8 v10 h9).bind fun h12 =>
  (sR 15 7 99 v10 h12).bind fun h13 =>
  b2 (muZ h13) fun v15 h14 =>
  (sR 15 8 99 v15 h14).bind fun h16 =>
  b2 (newO 18 3 h16) fun v18 h17 =>
  (mJx4a65c_init_da8c8 v18 h17).bind fun h20 =>
  (sR 15 11 99 v18 h20).bind fun h21 =>
  K h21) = K (hE (hk (sg0 (n9 n M)) I L)) := by
  obtain ⟨h0, hh0⟩ : ∃ h0, h0 = hk (sg0 (n9 n M)) I L := ⟨_, rfl⟩
  have e99 : (hpS h0 99).1 = 15 + 1 := by rw [hh0]; show (n.1 99).1 = 16; rw [he]
  have eN : hpN h0 = 433 := by rw [hh0]; rfl
  rw [← hh0]
  have nA : hpN (wR h0 99 0 100) = 433 := eN
  have k1 : (hpS (hpNew 50 8 (wR h0 99 0 100)) 99).1 = 15 + 1 := by
    rw [nw_S, if_neg (by omega)]; exact e99
  rw [sR_w e99, obind, newA_ok 50 8 (show 99 ≤ hpN (wR h0 99 0 100) by omega), b2s, nA, sR_w k1, obind]
  have nB : hpN (hB h0) = 434 := by show hpN h0 + 1 = 434; omega
  have sB : (hpS (hB h0) 99).1 = 15 + 1 := k1
  show (b2 (newO 18 3 (hB h0)) _) = _
  have l1 : (hpS (hpNew (18 + 1) 3 (hB h0)) 434).1 = 18 + 1 := by rw [nw_S, if_pos nB.symm]
  have k2 : (hpS (nls (hB h0)) 99).1 = 15 + 1 := by
    show (hpS (hpNew 19 3 (hB h0)) 99).1 = 15 + 1
    rw [nw_S, if_neg (by omega)]; exact sB
  rw [newO_ok 18 3 (show 99 ≤ hpN (hB h0) by omega), b2s, nB, ini_list l1, obind]
  have f1 : wR (wI (hpNew (18 + 1) 3 (hB h0)) 434 0 0) 434 1 4 = nls (hB h0) := by unfold nls; rw [nB]
  rw [f1, sR_w k2, obind]
  show (b2 (muZ (hC h0)) _) = _
  have nC : hpN (hC h0) = 435 := by show hpN (hB h0) + 1 = 435; omega
  have k3 : (hpS (hpMul (hC h0)) 99).1 = 15 + 1 := by
    show (if 99 = hpN (hC h0) then (79, 5) else if hpN (hC h0) ≤ 99 ∧ 99 < hpN (hC h0) + 6 then (52, 5) else (hC h0).1 99 : Nat × Nat).1 = 16
    rw [if_neg (by omega), if_neg (by omega)]; exact k2
  have mz : muZ (hC h0) = some (435, hpMul (hC h0)) := by
    unfold muZ
    rw [if_pos (by omega), nC]
  rw [mz, b2s, sR_w k3, obind]
  show (b2 (newO 18 3 (hD h0)) _) = _
  have nD : hpN (hD h0) = 441 := by show hpN (hC h0) + 6 = 441; omega
  have l2 : (hpS (hpNew (18 + 1) 3 (hD h0)) 441).1 = 18 + 1 := by rw [nw_S, if_pos nD.symm]
  have k4 : (hpS (nls (hD h0)) 99).1 = 15 + 1 := by
    show (hpS (hpNew 19 3 (hD h0)) 99).1 = 15 + 1
    rw [nw_S, if_neg (by omega)]; exact k3
  rw [newO_ok 18 3 (show 99 ≤ hpN (hD h0) by omega), b2s, nD, ini_list l2, obind]
  have f2 : wR (wI (hpNew (18 + 1) 3 (hD h0)) 441 0 0) 441 1 4 = nls (hD h0) := by unfold nls; rw [nD]
  rw [f2, sR_w k4, obind]
  rfl
end JQ
