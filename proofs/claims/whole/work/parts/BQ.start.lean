/-! BOTH FROM THE START, AND THE WHOLE LAW ON THE PURE HEAP -/
def l455 : List (Nat × Nat × Nat) := (433, 38, 454) :: (433, 35, 453) :: (433, 34, 452) :: (433, 33, 451) :: (433, 30, 450) :: (433, 29, 449) :: (433, 28, 448) :: (433, 27, 447) :: (433, 26, 446) :: (433, 25, 445) :: (433, 24, 444) :: (433, 23, 443) :: (433, 9, 442) :: (433, 7, 441) :: (433, 6, 440) :: (433, 5, 439) :: (433, 4, 438) :: (433, 3, 437) :: (433, 2, 436) :: (433, 1, 435) :: (433, 0, 434) :: l433
theorem l455_ok (n : Nat) : (fun a k => lookR a k l455) = RF (sg0 n) := by
  have e : RF (sg0 n) = RF (sg0 0) := rfl
  rw [e]
  exact refs_eq _ _ 455 (by decide +kernel) (chkR_ok (σ := sg0 0) (fun a k _ => rfl) (by decide +kernel)) fun a k h => RF_hi _ h
theorem lookP_no {a : Nat} : ∀ l : List (Nat × Nat × Nat), (∀ e ∈ l, ¬ e.1 = a) → lookP a l = (0, 0)
  | [], _ => rfl
  | (b, x) :: l, h => by
    have h' := List.forall_mem_cons.mp h
    show (if a = b then x else lookP a l) = (0, 0)
    rw [if_neg (fun z => h'.1 z.symm)]
    exact lookP_no l h'.2
theorem SH_hi (n : Nat) {a : Nat} (h : 455 ≤ a) : SH n a = (0, 0) := by
  have hb : ∀ e ∈ fixL, e.1 < 455 := by decide +kernel
  unfold SH SH0
  rw [if_neg (by omega), if_neg (by omega), if_neg (by omega), if_neg (by omega), if_neg (by omega), if_neg (by omega)]
  exact lookP_no _ fun e he z => by have := hb e he; omega
theorem Qh_hk {n : Nat} {I : Nat → Nat → Int32} {L : Nat → Nat → Int64} : Qh n 455 45575 l455 I L = hk (sg0 n) I L := by
  unfold Qh hk
  rw [l455_ok n]
  have e : (fun a => if a < 455 then SH n a else (0, 0)) = SH n := by
    funext a
    by_cases q : a < 455
    · exact if_pos q
    · rw [if_neg q, SH_hi n (by omega)]
  rw [e]
  rfl
theorem bg0 (i : Nat) : bgN T00 i = 0 := by
  unfold bgN bgk
  by_cases q : i = 18
  · rw [if_pos q]; rfl
  · rw [if_neg q, if_neg (fun z => by have : T00 2 = 0 := rfl; omega)]
section Start
variable {n k M a s m c j v la : Nat} {l : List (Nat × Nat × Nat)} {I : Nat → Nat → Int32} {L : Nat → Nat → Int64}
theorem mdl_ok (hZ : ∀ x, 433 ≤ x → I x = (fun _ => 0) ∧ L x = fun _ => 0) : ∃ I8, mX12_init 433 (Qh n 434 (21403 + 42) l433 I L) = some (hk (sg0 n) I8 L) ∧ MI I8 T00 (bgN T00) ∧ I8 433 20 = -1 ∧ (∀ k, k ≠ 20 → I8 433 k = 0) ∧ (∀ i, I8 441 i = 0) ∧ ∀ x, x < 433 → I8 x = I x := by
  obtain ⟨I7, hI7⟩ : ∃ I7, I7 = rowUp I 433 (updA (I 433) 20 (-1)) := ⟨_, rfl⟩
  have hZ7 : ∀ x, 434 ≤ x → I7 x = (fun _ => 0) ∧ L x = fun _ => 0 := fun x hx => by rw [hI7, rowUp_ne _ _ (by omega)]; exact hZ x (by omega)
  obtain ⟨I8, hI8⟩ : ∃ I8, I8 = rowUp I7 434 (updA (I7 434) 5 300) := ⟨_, rfl⟩
  have hW : WT T00 := sp0.wt (by show (0 : Nat) < 1000; omega) (by show (0 : Nat) ≤ 480; omega)
  have hT : rT I8 T00 := fun i hi => by
    rw [hI8, rowUp_same, updA_at]
    unfold T00
    by_cases q : i = 5
    · rw [if_pos q, if_pos q]; rfl
    · rw [if_neg q, if_neg q, (hZ7 434 (by omega)).1]; rfl
  have hN : rN I8 (bgN T00) := fun i hi => by rw [bg0, hI8, rowUp_ne _ _ (by omega), (hZ7 438 (by omega)).1]; rfl
  obtain ⟨P, c, t, q, r, le, lt⟩ := laysTables_ok (σ := sg0 n) (I := I8) (L := L) hT hN hW (fun f hf => by rw [bg0, bg0]; omega)
  have b9 : ∀ x, (x < 443 ∨ 447 < x) → rowUp (rowUp (rowUp (rowUp (rowUp I8 443 P) 444 c) 445 t) 446 q) 447 r x = I8 x := fun x hx => by rw [rowUp_ne _ _ (by omega), rowUp_ne _ _ (by omega), rowUp_ne _ _ (by omega), rowUp_ne _ _ (by omega), rowUp_ne _ _ (by omega)]
  refine ⟨_, ?_, ⟨fun i hi => by rw [b9 434 (by omega)]; exact hT i hi, fun i hi => by rw [b9 438 (by omega)]; exact hN i hi, hW, (bg_EX hW).1, lt⟩, ?_, fun k hk' => ?_, fun i => ?_, fun x hx => ?_⟩
  · unfold mX12_init
    rw [newA_Q (by omega) (by rfl) (hZ _ (by omega)) (by unfold lB; decide +kernel), b2s, sR_Q (by omega) (by rfl), obind, newA_Q (by omega) (by rfl) (hZ _ (by omega)) (by unfold lB; decide +kernel), b2s, sR_Q (by omega) (by rfl), obind, newA_Q (by omega) (by rfl) (hZ _ (by omega)) (by unfold lB; decide +kernel), b2s, sR_Q (by omega) (by rfl), obind, newA_Q (by omega) (by rfl) (hZ _ (by omega)) (by unfold lB; decide +kernel), b2s, sR_Q (by omega) (by rfl), obind, newA_Q (by omega) (by rfl) (hZ _ (by omega)) (by unfold lB; decide +kernel), b2s, sR_Q (by omega) (by rfl), obind, newA_Q (by omega) (by rfl) (hZ _ (by omega)) (by unfold lB; decide +kernel), b2s, sR_Q (by omega) (by rfl), obind, newA_Q (by omega) (by rfl) (hZ _ (by omega)) (by unfold lB; decide +kernel), b2s, sR_Q (by omega) (by rfl), obind, newA_Q (by omega) (by rfl) (hZ _ (by omega)) (by unfold lB; decide +kernel), b2s, sR_Q (by omega) (by rfl), obind, newA_Q (by omega) (by rfl) (hZ _ (by omega)) (by unfold lB; decide +kernel), b2s, sR_Q (by omega) (by rfl), obind, sI_Q (by omega) (by rfl), obind, ← hI7, newA_Q (by omega) (by rfl) (hZ7 _ (by omega)) (by unfold lB; decide +kernel), b2s, sR_Q (by omega) (by rfl), obind, newA_Q (by omega) (by rfl) (hZ7 _ (by omega)) (by unfold lB; decide +kernel), b2s, sR_Q (by omega) (by rfl), obind, newA_Q (by omega) (by rfl) (hZ7 _ (by omega)) (by unfold lB; decide +kernel), b2s, sR_Q (by omega) (by rfl), obind, newA_Q (by omega) (by rfl) (hZ7 _ (by omega)) (by unfold lB; decide +kernel), b2s, sR_Q (by omega) (by rfl), obind, newA_Q (by omega) (by rfl) (hZ7 _ (by omega)) (by unfold lB; decide +kernel), b2s, sR_Q (by omega) (by rfl), obind, newA_Q (by omega) (by rfl) (hZ7 _ (by omega)) (by unfold lB; decide +kernel), b2s, sR_Q (by omega) (by rfl), obind, newA_Q (by omega) (by rfl) (hZ7 _ (by omega)) (by unfold lB; decide +kernel), b2s, sR_Q (by omega) (by rfl), obind, newA_Q (by omega) (by rfl) (hZ7 _ (by omega)) (by unfold lB; decide +kernel), b2s, sR_Q (by omega) (by rfl), obind, newA_Q (by omega) (by rfl) (hZ7 _ (by omega)) (by unfold lB; decide +kernel), b2s, sR_Q (by omega) (by rfl), obind, newA_Q (by omega) (by rfl) (hZ7 _ (by omega)) (by unfold lB; decide +kernel), b2s, sR_Q (by omega) (by rfl), obind, newA_Q (by omega) (by rfl) (hZ7 _ (by omega)) (by unfold lB; decide +kernel), b2s, sR_Q (by omega) (by rfl), obind, newA_Q (by omega) (by rfl) (hZ7 _ (by omega)) (by unfold lB; decide +kernel), b2s, sR_Q (by omega) (by rfl), obind]
    have z : (gR 12 0 433 (hk (sg0 n) I7 L)).bind (fun v65 => (stI v65 (5 : Int32) (300 : Int32) (hk (sg0 n) I7 L)).bind fun h66 => (mX12_laysTables 433 h66).bind fun h68 => some h68) = some (hk (sg0 n) (rowUp (rowUp (rowUp (rowUp (rowUp I8 443 P) 444 c) 445 t) 446 q) 447 r) L) := by
      rw [show gR 12 0 433 (hk (sg0 n) I7 L) = some 434 from rfl, obind, show (5 : Int32) = nI 5 from rfl, stI_ok (n := 640) rfl (by omega) (by omega), obind, setI_hk, hpI_hk', ← hI8, le, obind]
    rw [← Qh_hk (I := I7) (L := L)] at z
    exact z
  · rw [b9 433 (by omega), hI8, rowUp_ne _ _ (by omega), hI7, rowUp_same, updA_same]
  · rw [b9 433 (by omega), hI8, rowUp_ne _ _ (by omega), hI7, rowUp_same, updA_ne _ _ hk', (hZ 433 (by omega)).1]
  · rw [b9 441 (by omega), hI8, rowUp_ne _ _ (by omega), (hZ7 441 (by omega)).1]
  · rw [b9 x (by omega), hI8, rowUp_ne _ _ (by omega), hI7, rowUp_ne _ _ (by omega)]
theorem begin_ok (hZ : ∀ x, 100 ≤ x → I x = (fun _ => 0) ∧ L x = fun _ => 0) (hO : SOk L) (hP : P3 I) : ∃ I8 L8, mL_law 1 (Qh n 100 0 [] I L) = mL_law_l18 1 100 433 0 (hk (sg0 n) I8 L8) ∧ ALL (sg0 n) I8 L8 (I 1) := by
  obtain ⟨I6, L6, ce, clw, rs, thh, f6, g6⟩ := cls_ok (n := n) hZ hO
  have hZ6 : ∀ x, 433 ≤ x → I6 x = (fun _ => 0) ∧ L6 x = fun _ => 0 := fun x hx => by rw [f6 x (by omega) (by omega) (by omega) (by omega), g6 x (by omega) (by omega)]; exact hZ x (by omega)
  obtain ⟨I8, me, mi, m20, mk, m441, mx⟩ := mdl_ok (n := n) hZ6
  have hW : WT T00 := mi.2.2.1
  obtain ⟨_, r, _, hr, _⟩ := clear_ok (σ := sg0 n) (I := fun _ _ => 0) (L := fun _ _ => 0) (la := 112) (Or.inl rfl)
  have cst : CSt (fun _ _ => 0) 268 (bgN T00) := (sd0 (I := fun _ _ => 0) (L := fun _ => r) (la := 112) (s := 268) (fun _ _ => rfl) (fun _ _ => ⟨rfl, rfl⟩) (fun _ _ => ⟨rfl, rfl⟩) hr (fun _ _ => rfl)).cst (Or.inl rfl) (by show (0 : Nat) ≤ 5; omega)
  have z8 : ∀ x, 123 ≤ x → x < 421 → I8 x = fun _ => 0 := fun x a b => by rw [mx x (by omega), f6 x (by omega) (by omega) (by omega) (by omega)]; exact (hZ x (by omega)).1
  have k8 : ∀ x, x < 107 → I8 x = I x := fun x hx => by rw [mx x (by omega), f6 x (by omega) (by omega) (by omega) (by omega)]
  have l8 : ∀ x, x < 109 → L6 x = L x := fun x hx => g6 x (by omega) (by omega)
  have z0 : ∀ x, 100 ≤ x → x < 107 → I8 x = fun _ => 0 := fun x a b => by rw [k8 x b]; exact (hZ x a).1
  refine ⟨I8, L6, ?_, T00, bgN T00, 0, fun _ _ => 0, fun _ => false, fun _ _ => 0, fun _ => 0, 0, 0, 0, fun _ => [], ?_, ?_, ⟨⟨⟨?_, ?_, ?_⟩, hW, (bg_EX hW).1, ?_, ?_⟩, mi, bg_EX hW, ⟨?_, ⟨Nat.zero_le _, ?_, ?_⟩, ⟨mk 8 (by omega), fun j hj => absurd hj (Nat.not_lt_zero _)⟩, ⟨?_, fun i _ z => by cases z⟩, fun i hi => ⟨m441 i, fun z => by cases z⟩, fun j hj => absurd hj (Nat.not_lt_zero _), fun i _ z => by cases z⟩, ?_, ?_⟩, ⟨Nat.zero_le _, ?_, ?_, fun i hi => absurd hi (Nat.not_lt_zero _)⟩, ⟨Nat.zero_le _, Nat.zero_le _, ?_, mk 19 (by omega), fun _ => m20, fun z => absurd rfl z⟩, Or.inl ⟨mk 39 (by omega), ?_⟩, fun f hf => absurd hf (Nat.not_lt_zero _), fun w hw => ?_⟩
  · unfold mL_law
    rw [newO_Q (by omega) (by rfl) (hZ _ (by omega)) (by unfold lB; decide +kernel), b2s]
    have q : (mX11_init 100 (Qh n 101 18 [] I L)).bind (fun h4 => b2 (newO 12 42 h4) fun v6 h5 => (mX12_init v6 h5).bind fun h8 => mL_law_l18 1 100 v6 0 h8) = mL_law_l18 1 100 433 0 (hk (sg0 n) I8 L6) := by
      rw [ce, obind, ← Qh_S9, newO_Q (by omega) (by rfl) (hZ6 _ (by omega)) (by unfold lB; decide +kernel), b2s, me, obind]
    exact q
  · exact ⟨Or.inl rfl, Or.inr rfl, by show ¬ (112 : Nat) = 190; omega, Or.inl rfl, by show (268 : Nat) < 282; omega, Or.inr (Or.inl rfl), by show (275 : Nat) < 282; omega, by show ¬ (268 : Nat) = 275; omega⟩
  · exact k8 1 (by omega)
  · exact Or.inl rfl
  · exact Or.inl rfl
  · intro f hf
    rw [l8 2 (by omega)]; exact hO f hf
  · exact clw.eq2 (la := 112) (Or.inl rfl) hW (fun j hj => mx _ (by omega)) (fun j hj => rfl)
  · exact cst.eq fun x a b => z8 x (by have a : 268 ≤ x := a; omega) (by have b : x < 268 + 7 := b; omega)
  · show (268 : Nat) < 282; omega
  · rw [z8 285 (by omega) (by omega)]; rfl
  · exact ⟨0, by omega, by rw [z8 285 (by omega) (by omega)]; rfl, fun j hj => absurd hj (Nat.not_lt_zero _)⟩
  · rw [z8 285 (by omega) (by omega)]; rfl
  · intro f hf
    rw [k8 3 (by omega)]; exact hP f hf
  · intro w hw
    rw [mx 421 (by omega)]; exact thh w hw
  · rw [z0 101 (by omega) (by omega)]; rfl
  · exact mk 10 (by omega)
  · rw [z8 282 (by omega) (by omega)]; rfl
  · rw [l8 100 (by omega), (hZ 100 (by omega)).2]
  · rw [mx 107 (by omega)]; exact rs w hw
theorem law_pure (hn : n ≤ 2560) (hZ : ∀ x, 100 ≤ x → I x = (fun _ => 0) ∧ L x = fun _ => 0) (hO : SOk L) (hP : P3 I) : ∃ σ I' L', mL_law 1 (Qh n 100 0 [] I L) = some (1, hk σ I' L') := by
  obtain ⟨I8, L8, e, hA⟩ := begin_ok (n := n) hZ hO hP
  obtain ⟨σ, I', L', e2⟩ := law_run (S := I 1) (n + 1) (i := 0) hA hn (by omega) (by show n < 0 + 5 + (n + 1); omega)
  exact ⟨σ, I', L', by rw [e]; exact e2⟩
end Start
