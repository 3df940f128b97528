/-! THE CONSTRUCTORS WITH LOOPS -/
def zLa (la : Nat) : List (Nat × Nat × Nat) := [(la, 19, la + 14), (la + 14, 0, la + 15), (la, 18, la + 13), (la, 17, la + 11), (la + 11, 0, la + 12), (la, 16, la + 10), (la, 15, la + 9), (la, 14, la + 8), (la, 12, la + 7), (la, 11, la + 6), (la, 10, la + 5), (la, 9, la + 4), (la, 8, la + 3), (la, 7, la + 2), (la, 6, la + 1)]
def zW (la : Nat) : Nat → List (Nat × Nat × Nat)
  | 0 => []
  | i + 1 => (la + 13, i, la + 16 + 2 * i) :: (la + 16 + 2 * i, 0, la + 16 + 2 * i + 1) :: zW la i
def zHl (r b : Nat) : Nat → List (Nat × Nat × Nat)
  | 0 => []
  | i + 1 => (r, i, b + 7 * i) :: (zSl (b + 7 * i) ++ zHl r b i)
theorem lB.a {l1 l2 : List (Nat × Nat × Nat)} {k : Nat} (h1 : lB l1 k) (h2 : lB l2 k) : lB (l1 ++ l2) k := List.forall_mem_append.mpr ⟨h1, h2⟩
theorem zW_B (la : Nat) : ∀ i, lB (zW la i) (la + 16 + 2 * i)
  | 0 => fun _ h => absurd h List.not_mem_nil
  | i + 1 => lB.c (by omega) (lB.c (by omega) ((zW_B la i).m (by omega)))
theorem zSl_B (s : Nat) : lB (zSl s) (s + 1) := lB.c (by omega) (lB.c (by omega) (lB.c (by omega) (lB.c (by omega) (lB.c (by omega) (lB.c (by omega) (fun _ h => absurd h List.not_mem_nil))))))
theorem zHl_B {r b : Nat} (h : r < b) : ∀ i, lB (zHl r b i) (b + 7 * i)
  | 0 => fun _ h => absurd h List.not_mem_nil
  | i + 1 => lB.c (by omega) (((zSl_B _).m (by omega)).a ((zHl_B h i).m (by omega)))
theorem look_W {la a j : Nat} (h : a < la + 13) (l : List (Nat × Nat × Nat)) : ∀ i, lookR a j (zW la i ++ l) = lookR a j l
  | 0 => rfl
  | i + 1 => by
    show (if a = la + 13 ∧ j = i then _ else if a = la + 16 + 2 * i ∧ j = 0 then _ else lookR a j (zW la i ++ l)) = _
    rw [if_neg (by omega), if_neg (by omega), look_W h l i]
theorem look_S {s a j : Nat} (h : a < s) (l : List (Nat × Nat × Nat)) : lookR a j (zSl s ++ l) = lookR a j l := by
  show (if a = s ∧ j = 14 then _ else if a = s ∧ j = 13 then _ else if a = s ∧ j = 12 then _ else if a = s ∧ j = 11 then _ else if a = s ∧ j = 10 then _ else if a = s ∧ j = 9 then _ else lookR a j l) = _
  rw [if_neg (by omega), if_neg (by omega), if_neg (by omega), if_neg (by omega), if_neg (by omega), if_neg (by omega)]
theorem look_H {r b a j : Nat} (h : a < r) (hb : r < b) (l : List (Nat × Nat × Nat)) : ∀ i, lookR a j (zHl r b i ++ l) = lookR a j l
  | 0 => rfl
  | i + 1 => by
    show (if a = r ∧ j = i then _ else lookR a j ((zSl (b + 7 * i) ++ zHl r b i) ++ l)) = _
    rw [if_neg (by omega), List.append_assoc, look_S (by omega), look_H h hb l i]
section Loops
variable {n : En} {k M a s m c j v la : Nat} {l : List (Nat × Nat × Nat)} {I : Nat → Nat → Int32} {L : Nat → Nat → Int64}
theorem iW (hla : isLa la) (hZ : ∀ x, la + 16 ≤ x → I x = (fun _ => 0) ∧ L x = fun _ => 0) (hl : lB l (la + 16)) (hr : lookR la 18 l = la + 13) : mX1_init_l116 la 0 (Qh n (la + 16) M l I L) = some (Qh n (la + 78) (M + 155) (zW la 31 ++ l) I L) := by
  have h100 : 100 ≤ la := by unfold isLa at hla; omega
  unfold mX1_init_l116
  refine lp_traj (f := fun s : Int32 × Hp => mX1_init_l116f la s.1 s.2) 31 (fun i => (nI i, Qh n (la + 16 + 2 * i) (M + 5 * i) (zW la i ++ l) I L)) _ (fun i hi => ?_) ?_
  · have lb : ∀ d, lB (zW la i ++ l) (la + 16 + 2 * i + d) := fun d => ((zW_B la i).m (by omega)).a (hl.m (by omega))
    show mX1_init_l116f la (nI i) (Qh n (la + 16 + 2 * i) (M + 5 * i) (zW la i ++ l) I L) = _
    unfold mX1_init_l116f
    rw [gR_Q (by omega) (SH_la0 hla), obind, look_W (by omega), hr, aLen_Q (by omega) (SH_la13 hla) rfl, obind, if_pos (nI_lt hi (by omega)), obind, newO_Q (by omega) (SH_laT hla hi) (hZ _ (by omega)) (lb 0), b2s, i10 (by omega) (SH_laT hla hi) (by omega) (by rw [show la + 16 + 2 * i + 1 = la + 17 + 2 * i by omega]; exact SH_laP hla hi) (hZ _ (by omega)) (lb 1), obind, stR_Q (by omega) (SH_la13 hla) hi (by omega) (by omega) (SH_laT hla hi), obind, nI_1]
    rfl
  · show mX1_init_l116f la (nI 31) (Qh n (la + 16 + 2 * 31) (M + 5 * 31) (zW la 31 ++ l) I L) = _
    unfold mX1_init_l116f
    rw [gR_Q (by omega) (SH_la0 hla), obind, look_W (by omega), hr, aLen_Q (by omega) (SH_la13 hla) rfl, obind, if_neg (by decide)]
    rfl
theorem iLa (hla : isLa la) (hZ : ∀ x, la + 1 ≤ x → I x = (fun _ => 0) ∧ L x = fun _ => 0) (hl : lB l (la + 1)) : mX1_init la (Qh n (la + 1) M l I L) = some (Qh n (la + 78) (M + 1506) (zW la 31 ++ (zLa la ++ l)) I L) := by
  have h100 : 100 ≤ la := by unfold isLa at hla; omega
  have s14 : SH n (la + 14) = (11, 1) := by rcases hla with rfl | rfl <;> rfl
  have s15 : SH n (la + 15) = (51, 4) := by rcases hla with rfl | rfl <;> rfl
  have w := iW (n := n) (M := M + 1351) (l := zLa la ++ l) (I := I) (L := L) hla (fun x hx => hZ x (by omega)) (by (repeat (refine lB.c (by omega) ?_)); exact hl.m (by omega)) (by
    show (if la = la ∧ 18 = 19 then _ else if la = la + 14 ∧ 18 = 0 then _ else if la = la ∧ 18 = 18 then la + 13 else _) = _
    rw [if_neg (by omega), if_neg (by omega), if_pos ⟨rfl, rfl⟩])
  unfold mX1_init
  rw [newA_Q (by omega) (SH_la1 hla) (hZ _ (by omega)) (by (repeat (refine lB.c (by omega) ?_)); exact hl.m (by omega)), b2s, sR_Q (by omega) (SH_la0 hla), obind, newA_Q (by omega) (SH_la2 hla) (hZ _ (by omega)) (by (repeat (refine lB.c (by omega) ?_)); exact hl.m (by omega)), b2s, sR_Q (by omega) (SH_la0 hla), obind, newA_Q (by omega) (SH_la3 hla) (hZ _ (by omega)) (by (repeat (refine lB.c (by omega) ?_)); exact hl.m (by omega)), b2s, sR_Q (by omega) (SH_la0 hla), obind, newA_Q (by omega) (SH_la4 hla) (hZ _ (by omega)) (by (repeat (refine lB.c (by omega) ?_)); exact hl.m (by omega)), b2s, sR_Q (by omega) (SH_la0 hla), obind, newA_Q (by omega) (SH_la5 hla) (hZ _ (by omega)) (by (repeat (refine lB.c (by omega) ?_)); exact hl.m (by omega)), b2s, sR_Q (by omega) (SH_la0 hla), obind, newA_Q (by omega) (SH_la6 hla) (hZ _ (by omega)) (by (repeat (refine lB.c (by omega) ?_)); exact hl.m (by omega)), b2s, sR_Q (by omega) (SH_la0 hla), obind, newA_Q (by omega) (SH_la7 hla) (hZ _ (by omega)) (by (repeat (refine lB.c (by omega) ?_)); exact hl.m (by omega)), b2s, sR_Q (by omega) (SH_la0 hla), obind, newA_Q (by omega) (SH_la8 hla) (hZ _ (by omega)) (by (repeat (refine lB.c (by omega) ?_)); exact hl.m (by omega)), b2s, sR_Q (by omega) (SH_la0 hla), obind, newA_Q (by omega) (SH_la9 hla) (hZ _ (by omega)) (by (repeat (refine lB.c (by omega) ?_)); exact hl.m (by omega)), b2s, sR_Q (by omega) (SH_la0 hla), obind, newA_Q (by omega) (SH_la10 hla) (hZ _ (by omega)) (by (repeat (refine lB.c (by omega) ?_)); exact hl.m (by omega)), b2s, sR_Q (by omega) (SH_la0 hla), obind, newO_Q (by omega) (SH_la11 hla) (hZ _ (by omega)) (by (repeat (refine lB.c (by omega) ?_)); exact hl.m (by omega)), b2s, i10 (by omega) (SH_la11 hla) (by omega) (SH_la12 hla) (hZ _ (by omega)) (by (repeat (refine lB.c (by omega) ?_)); exact hl.m (by omega)), obind, sR_Q (by omega) (SH_la0 hla), obind, newA_Q (by omega) (SH_la13 hla) (hZ _ (by omega)) (by (repeat (refine lB.c (by omega) ?_)); exact hl.m (by omega)), b2s, sR_Q (by omega) (SH_la0 hla), obind, newO_Q (by omega) (s14) (hZ _ (by omega)) (by (repeat (refine lB.c (by omega) ?_)); exact hl.m (by omega)), b2s, i10 (by omega) (s14) (by omega) (s15) (hZ _ (by omega)) (by (repeat (refine lB.c (by omega) ?_)); exact hl.m (by omega)), obind, sR_Q (by omega) (SH_la0 hla), obind]
  exact w
/-- the history -/
theorem iH {r b t0 : Nat} (hr : r < b) (h100 : 100 ≤ b) (hs : ∀ i, i < t0 → isSt (b + 7 * i)) (hrS : SH n r = (65, t0)) (ht : t0 < 100) (hZ : ∀ x, b ≤ x → I x = (fun _ => 0) ∧ L x = fun _ => 0) (hl : lB l b) {i : Nat} (hi : i < t0) :
    b2 (newO 5 15 (Qh n (b + 7 * i) (M + 63 * i) (zHl r b i ++ l) I L)) (fun v15 h14 => (mX5_init v15 h14).bind fun h17 => (stR 5 r (nI i) v15 h17).bind fun h18 => some (Sum.inl (nI i + (1 : Int32), h18) : (Int32 × Hp) ⊕ Hp)) = some (.inl (nI (i + 1), Qh n (b + 7 * (i + 1)) (M + 63 * (i + 1)) (zHl r b (i + 1) ++ l) I L)) := by
  have lb : ∀ d, lB (zHl r b i ++ l) (b + 7 * i + d) := fun d => ((zHl_B hr i).m (by omega)).a (hl.m (by omega))
  have s0 := SH_st (n := n) (hs i hi)
  rw [newO_Q (by omega) s0.1 (hZ _ (by omega)) (lb 0), b2s, i5 (hs i hi) (fun x hx => hZ x (by omega)) (lb 1), obind, stR_Q (by omega) hrS hi (by omega) (by omega) s0.1, obind, nI_1, show b + 7 * (i + 1) = b + 7 * i + 7 by omega, show M + 63 * (i + 1) = M + 63 * i + 15 + 48 by omega]
  show _ = (some (Sum.inl (nI (i + 1), Qh n (b + 7 * i + 7) (M + 63 * i + 15 + 48) ((r, i, b + 7 * i) :: ((zSl (b + 7 * i) ++ zHl r b i) ++ l)) I L)) : Option ((Int32 × Hp) ⊕ Hp))
  rw [List.append_assoc]
theorem iHs (hZ : ∀ x, 286 ≤ x → I x = (fun _ => 0) ∧ L x = fun _ => 0) (hl : lB l 286) : mX0_init 285 (Qh n 286 M l I L) = some (Qh n 414 (M + 18 + 63 * 16 + 63 * 2) (zHl 287 400 2 ++ (zHl 286 288 16 ++ ((285, 1, 287) :: (285, 0, 286) :: l))) I L) := by
  have l0 : lB ((285, 1, 287) :: (285, 0, 286) :: l) 288 := (by (repeat (refine lB.c (by omega) ?_)); exact hl.m (by omega))
  obtain ⟨l2, hl2⟩ : ∃ l2, l2 = (285, 1, 287) :: (285, 0, 286) :: l := ⟨_, rfl⟩
  have e0 : lookR 285 0 l2 = 286 := by rw [hl2]; rfl
  have e1 : lookR 285 1 l2 = 287 := by rw [hl2]; rfl
  unfold mX0_init
  rw [newA_Q (by omega) (SH_286 n) (hZ _ (by omega)) hl, b2s, sR_Q (by omega) (SH_285 n), obind, newA_Q (by omega) (SH_287 n) (hZ _ (by omega)) (by (repeat (refine lB.c (by omega) ?_)); exact hl.m (by omega)), b2s, sR_Q (by omega) (SH_285 n), obind]
  rw [← hl2] at l0 ⊢
  have st2 : ∀ i, i < 2 → isSt (400 + 7 * i) := fun i hi => by unfold isSt; omega
  have st1 : ∀ i, i < 16 → isSt (288 + 7 * i) := fun i hi => by unfold isSt; omega
  have l1 : lB (zHl 286 288 16 ++ l2) 400 := ((zHl_B (by omega) 16).m (by omega)).a (l0.m (by omega))
  have second : mX0_init_l50 285 0 (Qh n 400 (M + 18 + 63 * 16) (zHl 286 288 16 ++ l2) I L) = some (Qh n 414 (M + 18 + 63 * 16 + 63 * 2) (zHl 287 400 2 ++ (zHl 286 288 16 ++ l2)) I L) := by
    unfold mX0_init_l50
    refine lp_traj (f := fun s : Int32 × Hp => mX0_init_l50f 285 s.1 s.2) 2 (fun i => (nI i, Qh n (400 + 7 * i) (M + 18 + 63 * 16 + 63 * i) (zHl 287 400 i ++ (zHl 286 288 16 ++ l2)) I L)) _ (fun i hi => ?_) ?_
    · show mX0_init_l50f 285 (nI i) (Qh n (400 + 7 * i) (M + 18 + 63 * 16 + 63 * i) (zHl 287 400 i ++ (zHl 286 288 16 ++ l2)) I L) = _
      unfold mX0_init_l50f
      rw [if_pos (show nI i < (2 : Int32) from nI_lt (b := 2) hi (by omega)), gR_Q (by omega) (SH_285 n), obind, look_H (by omega) (by omega), look_H (by omega) (by omega), e1]
      exact iH (by omega) (by omega) st2 (SH_287 n) (by omega) (fun x hx => hZ x (by omega)) l1 hi
    · show mX0_init_l50f 285 (nI 2) _ = _
      unfold mX0_init_l50f
      rw [if_neg (by decide)]
      rfl
  unfold mX0_init_l23
  refine lp_traj (f := fun s : Int32 × Hp => mX0_init_l23f 285 s.1 s.2) 16 (fun i => (nI i, Qh n (288 + 7 * i) (M + 18 + 63 * i) (zHl 286 288 i ++ l2) I L)) _ (fun i hi => ?_) ?_
  · show mX0_init_l23f 285 (nI i) (Qh n (288 + 7 * i) (M + 18 + 63 * i) (zHl 286 288 i ++ l2) I L) = _
    unfold mX0_init_l23f
    rw [if_pos (show nI i < (16 : Int32) from nI_lt (b := 16) hi (by omega)), gR_Q (by omega) (SH_285 n), obind, look_H (by omega) (by omega), e0]
    exact iH (by omega) (by omega) st1 (SH_286 n) (by omega) (fun x hx => hZ x (by omega)) l0 hi
  · show mX0_init_l23f 285 (nI 16) (Qh n (288 + 7 * 16) (M + 18 + 63 * 16) (zHl 286 288 16 ++ l2) I L) = _
    unfold mX0_init_l23f
    rw [if_neg (by decide), second, xts]
/-- the reserved words -/
def lz0 : List Nat := (List.range (zLen 0)).map fun j => (zByte 0 j).toInt.toNat
theorem lz0_ok (h : Hp) : ST h 10 lz0 := by
  have h1 : ∀ j, j < lz0.length → lz0.getD j 0 < 128 := by decide +kernel
  have h2 : ∀ j, j < lz0.length → zByte 0 j = nI (lz0.getD j 0) := by decide +kernel
  have h3 : zLen 0 = lz0.length := by decide +kernel
  exact ⟨h1, Or.inl ⟨by omega, by omega, h3, h2⟩⟩
noncomputable def gl (a t : Int32) : Int32 := if t = (32 : Int32) then a else (a <<< ((5 : Int32) &&& 31)) ||| ((t - (97 : Int32)) + (1 : Int32))
def tz (w j : Nat) : Int32 := if w * 6 + j < lz0.length then nI (lz0.getD (w * 6 + j) 0) else 32
noncomputable def rl (w : Nat) : Nat → Int32
  | 0 => 0
  | j + 1 => gl (rl w j) (tz w j)
theorem b37_gl (x a t : Int32) (j : Nat) (h : Hp) : mX8_reservedLetters_b37 x a (nI j) t h = some (.inl (gl a t, nI (j + 1))) := by
  unfold mX8_reservedLetters_b37 mX8_reservedLetters_b53 mX8_withLetter gl
  by_cases q : t = 32
  · rw [if_pos q, if_pos q, nI_1]
  · rw [if_neg q, if_neg q, obind, nI_1]
theorem rl_ok (h : Hp) : ∀ w, w < 11 → mX8_reservedLetters (nI w) h = some (nI (pk5 (rsW.getD w []))) := by
  have h2 : ∀ w, w < 11 → rl w 6 = nI (pk5 (rsW.getD w [])) := by decide +kernel
  have hl : lz0.length < 1000 := by decide +kernel
  intro w hw
  unfold mX8_reservedLetters mX8_reservedLetters_l4
  refine lp_traj (f := fun s : Int32 × Int32 => mX8_reservedLetters_l4f (nI w) h s.1 s.2) 6 (fun j => (rl w j, nI j)) _ (fun j hj => ?_) ?_
  · show mX8_reservedLetters_l4f (nI w) h (rl w j) (nI j) = some (.inl (gl (rl w j) (tz w j), nI (j + 1)))
    unfold mX8_reservedLetters_l4f tz
    rw [if_pos (show nI j < (6 : Int32) from nI_lt (b := 6) hj (by omega)), (lz0_ok h).len, obind, show (6 : Int32) = nI 6 from rfl, pk_mul, nI_add]
    by_cases q : w * 6 + j < lz0.length
    · rw [if_pos (nI_lt q (by omega)), if_pos q, (lz0_ok h).chr (by omega) q, obind, b37_gl]
    · rw [if_neg (fun z => q ((nI_ltI (by omega) (by omega)).mp z)), if_neg q, b37_gl]
  · show mX8_reservedLetters_l4f (nI w) h (rl w 6) (nI 6) = _
    unfold mX8_reservedLetters_l4f
    rw [if_neg (by decide), h2 w hw, xts]
theorem i8 (hZ : ∀ x, 104 ≤ x → I x = (fun _ => 0) ∧ L x = fun _ => 0) (hl : lB l 104) : ∃ r, mX8_init 103 (Qh n 104 M l I L) = some (Qh n 108 (M + 1454) ((103, 3, 107) :: (103, 2, 106) :: (103, 1, 105) :: (103, 0, 104) :: l) (rowUp I 107 r) L) ∧ ∀ w, w < 11 → r w = nI (pk5 (rsW.getD w [])) := by
  obtain ⟨l2, hl2⟩ : ∃ l2, l2 = (103, 3, 107) :: (103, 2, 106) :: (103, 1, 105) :: (103, 0, 104) :: l := ⟨_, rfl⟩
  have e3 : lookR 103 3 l2 = 107 := by rw [hl2]; rfl
  unfold mX8_init
  rw [newA_Q (by omega) (SH_104 n) (hZ _ (by omega)) hl, b2s, sR_Q (by omega) (SH_103 n), obind, newA_Q (by omega) (SH_105 n) (hZ _ (by omega)) (by (repeat (refine lB.c (by omega) ?_)); exact hl.m (by omega)), b2s, sR_Q (by omega) (SH_103 n), obind, newA_Q (by omega) (SH_106 n) (hZ _ (by omega)) (by (repeat (refine lB.c (by omega) ?_)); exact hl.m (by omega)), b2s, sR_Q (by omega) (SH_103 n), obind, newA_Q (by omega) (SH_107 n) (hZ _ (by omega)) (by (repeat (refine lB.c (by omega) ?_)); exact hl.m (by omega)), b2s, sR_Q (by omega) (SH_103 n), obind]
  rw [← hl2]
  unfold mX8_init_l41
  obtain ⟨o, e, r, rfl, hr⟩ := lp_inv (f := fun s : Int32 × Hp => mX8_init_l41f 103 s.1 s.2) 11 (fun i st => ∃ r, st = (nI i, Qh n 108 (M + 1454) l2 (rowUp I 107 r) L) ∧ ∀ w, w < i → r w = nI (pk5 (rsW.getD w []))) (fun o => ∃ r, o = Qh n 108 (M + 1454) l2 (rowUp I 107 r) L ∧ ∀ w, w < 11 → r w = nI (pk5 (rsW.getD w [])))
    (fun i st hi hQ => by
      obtain ⟨r, rfl, hr⟩ := hQ
      refine ⟨_, ?_, updA r i (nI (pk5 (rsW.getD i []))), rfl, fun w hw => ?_⟩
      · show mX8_init_l41f 103 (nI i) (Qh n 108 (M + 1454) l2 (rowUp I 107 r) L) = _
        unfold mX8_init_l41f
        rw [if_pos (show nI i < (11 : Int32) from nI_lt (b := 11) hi (by omega)), gR_Q (by omega) (SH_103 n), obind, e3, rl_ok _ i hi, obind, put_Q (by omega) (SH_107 n) hi (by omega), obind, rowUp_two, rowUp_same, nI_1]
      · by_cases e : w = i
        · subst e; exact updA_same _ _ _
        · rw [updA_ne _ _ e]; exact hr w (by omega))
    (fun st hQ => by
      obtain ⟨r, rfl, hr⟩ := hQ
      refine ⟨_, ?_, r, rfl, hr⟩
      show mX8_init_l41f 103 (nI 11) _ = _
      unfold mX8_init_l41f
      rw [if_neg (by decide)]
      rfl) (s := (0, Qh n 108 (M + 1454) l2 (rowUp I 107 (I 107)) L)) ⟨I 107, rfl, fun w hw => absurd hw (Nat.not_lt_zero _)⟩
  rw [rowUp_id] at e
  exact ⟨r, e, hr⟩
end Loops
