/-! THE CLASS IS MADE -/
theorem lookR_or (f : Nat → Nat → Nat) (a k : Nat) : ∀ l : List (Nat × Nat × Nat), (∀ e ∈ l, f e.1 e.2.1 = e.2.2) → lookR a k l = f a k ∨ (lookR a k l = 0 ∧ ∀ e ∈ l, ¬ (e.1 = a ∧ e.2.1 = k))
  | [], _ => Or.inr ⟨rfl, fun _ h => absurd h List.not_mem_nil⟩
  | (b, j, x) :: l, h => by
    have h' := List.forall_mem_cons.mp h
    show (if a = b ∧ k = j then x else lookR a k l) = f a k ∨ ((if a = b ∧ k = j then x else lookR a k l) = 0 ∧ _)
    by_cases q : a = b ∧ k = j
    · rw [if_pos q, q.1, q.2]
      exact Or.inl h'.1.symm
    · rw [if_neg q]
      rcases lookR_or f a k l h'.2 with e | ⟨e1, e2⟩
      · exact Or.inl e
      · exact Or.inr ⟨e1, List.forall_mem_cons.mpr ⟨fun z => q ⟨z.1.symm, z.2.symm⟩, e2⟩⟩
theorem refs_eq (f : Nat → Nat → Nat) (l : List (Nat × Nat × Nat)) (B : Nat) (h1 : ∀ e ∈ l, f e.1 e.2.1 = e.2.2) (h2 : ∀ a, a < B → ∀ k, k < 42 → f a k = 0 ∨ ∃ e ∈ l, e.1 = a ∧ e.2.1 = k) (h3 : ∀ a k, B ≤ a ∨ 42 ≤ k → f a k = 0) : (fun a k => lookR a k l) = f := by
  funext a k
  rcases lookR_or f a k l h1 with e | ⟨e1, e2⟩
  · exact e
  · show lookR a k l = f a k
    rw [e1]
    by_cases q : B ≤ a ∨ 42 ≤ k
    · exact (h3 a k q).symm
    · rcases h2 a (by omega) k (by omega) with z | ⟨e, he, hk⟩
      · exact z.symm
      · exact absurd hk (e2 e he)
theorem lookR_no {a k : Nat} : ∀ l : List (Nat × Nat × Nat), (∀ e ∈ l, ¬ (e.1 = a ∧ e.2.1 = k)) → lookR a k l = 0
  | [], _ => rfl
  | (b, j, x) :: l, h => by
    have h' := List.forall_mem_cons.mp h
    show (if a = b ∧ k = j then x else lookR a k l) = 0
    rw [if_neg (fun z => h'.1 ⟨z.1.symm, z.2.symm⟩)]
    exact lookR_no l h'.2
theorem lookR_hi {a k : Nat} (h : 455 ≤ a ∨ 42 ≤ k) : lookR a k refL = 0 := by
  have hb : ∀ e ∈ refL, e.1 < 455 ∧ e.2.1 < 42 := by decide +kernel
  exact lookR_no _ fun e he z => by have := hb e he; omega
theorem RF_hi {σ : Sg} (hz : ∀ a k, (gN σ).2.1 a k = 0) {a k : Nat} (h : 455 ≤ a ∨ 42 ≤ k) : RF σ a k = 0 := by
  unfold RF
  rcases h with h | h
  · rw [if_neg (by omega), if_neg (by omega), if_neg (by omega)]
    exact hz a k
  · by_cases a1 : a = 100
    · rw [if_pos a1]
      simp (disch := omega) only [if_neg]
    · rw [if_neg a1]
      by_cases a2 : a = 282
      · rw [if_pos a2]
        simp (disch := omega) only [if_neg]
      · rw [if_neg a2]
        rcases Classical.em (¬ (100 ≤ a ∧ a < 433)) with a6 | a6
        · rw [if_neg a6, hz]
        have a6 := Classical.not_not.mp a6
        rw [if_pos a6]
        unfold RF0
        by_cases a3 : 112 ≤ a ∧ a < 268
        · rw [if_pos a3]
          unfold lawR
          by_cases j0 : (a - 112) % 78 = 0
          · rw [if_pos j0]
            simp (disch := omega) only [if_neg]
          · rw [if_neg j0]
            by_cases j1 : (a - 112) % 78 = 13
            · rw [if_pos j1, if_neg (by omega)]
            · rw [if_neg j1, if_neg (show ¬ k = 0 by omega)]
              split <;> rfl
        · rw [if_neg a3]
          by_cases a4 : 268 ≤ a ∧ a < 282
          · rw [if_pos a4]
            unfold stR0
            rw [if_neg (show ¬ (9 ≤ k ∧ k < 15) by omega)]
            split <;> rfl
          · rw [if_neg a4]
            by_cases a5 : 288 ≤ a ∧ a < 414
            · rw [if_pos a5]
              unfold stR0
              rw [if_neg (show ¬ (9 ≤ k ∧ k < 15) by omega)]
              split <;> rfl
            · rw [if_neg a5]
              exact lookR_hi (Or.inr h)
def kb (a : Nat) : Nat := if a = 100 then 16 else if a = 282 then 5 else if 112 ≤ a ∧ a < 268 then (if (a - 112) % 78 = 0 then 20 else if (a - 112) % 78 = 13 then 31 else 1) else if 268 ≤ a ∧ a < 282 then (if (a - 268) % 7 = 0 then 15 else 0) else if 288 ≤ a ∧ a < 414 then (if (a - 288) % 7 = 0 then 15 else 0) else 0
theorem RF_kb {σ : Sg} (hz : ∀ a k, (gN σ).2.1 a k = 0) {a k : Nat} (h : kb a ≤ k) : RF σ a k = 0 ∨ RF σ a k = lookR a k refL := by
  unfold kb at h
  unfold RF
  by_cases a1 : a = 100
  · rw [if_pos a1] at h ⊢
    left
    simp (disch := omega) only [if_neg]
  · rw [if_neg a1] at h ⊢
    by_cases a2 : a = 282
    · rw [if_pos a2] at h ⊢
      left
      simp (disch := omega) only [if_neg]
    · rw [if_neg a2] at h ⊢
      rcases Classical.em (¬ (100 ≤ a ∧ a < 433)) with a6 | a6
      · rw [if_neg a6, hz]
        exact Or.inl rfl
      have a6 := Classical.not_not.mp a6
      rw [if_pos a6]
      unfold RF0
      by_cases a3 : 112 ≤ a ∧ a < 268
      · rw [if_pos a3] at h ⊢
        left
        unfold lawR
        by_cases j0 : (a - 112) % 78 = 0
        · rw [if_pos j0] at h ⊢
          simp (disch := omega) only [if_neg]
        · rw [if_neg j0] at h ⊢
          by_cases j1 : (a - 112) % 78 = 13
          · rw [if_pos j1] at h ⊢
            rw [if_neg (by omega)]
          · rw [if_neg j1] at h ⊢
            rw [if_neg (show ¬ k = 0 by omega)]
            split <;> rfl
      · rw [if_neg a3] at h ⊢
        by_cases a4 : 268 ≤ a ∧ a < 282
        · rw [if_pos a4] at h ⊢
          left
          unfold stR0
          by_cases j0 : (a - 268) % 7 = 0
          · rw [if_pos j0] at h ⊢
            rw [if_neg (by omega)]
          · rw [if_neg j0]
        · rw [if_neg a4] at h ⊢
          by_cases a5 : 288 ≤ a ∧ a < 414
          · rw [if_pos a5] at h ⊢
            left
            unfold stR0
            by_cases j0 : (a - 288) % 7 = 0
            · rw [if_pos j0] at h ⊢
              rw [if_neg (by omega)]
            · rw [if_neg j0]
          · rw [if_neg a5]
            exact Or.inr rfl
def keyB (l : List (Nat × Nat × Nat)) (a k : Nat) : Bool := l.any fun e => Nat.beq e.1 a && Nat.beq e.2.1 k
def chkR (f : Nat → Nat → Nat) (l : List (Nat × Nat × Nat)) (B : Nat) : Bool := ((List.range B).all fun a => (List.range (kb a)).all fun k => Nat.beq (f a k) 0 || keyB l a k) && refL.all fun e => Nat.ble B e.1 || keyB l e.1 e.2.1
theorem keyB_ok {l : List (Nat × Nat × Nat)} {a k : Nat} (h : keyB l a k = true) : ∃ e ∈ l, e.1 = a ∧ e.2.1 = k := by
  obtain ⟨x, hx, hxe⟩ := List.any_eq_true.mp h
  obtain ⟨q1, q2⟩ := Bool.and_eq_true _ _ |>.mp hxe
  exact ⟨x, hx, Nat.eq_of_beq_eq_true q1, Nat.eq_of_beq_eq_true q2⟩
theorem chkR_ok {σ : Sg} {f : Nat → Nat → Nat} {l : List (Nat × Nat × Nat)} {B : Nat} (hz : ∀ a k, (gN σ).2.1 a k = 0) (hf : ∀ a k, a < B → f a k = RF σ a k) (h : chkR f l B = true) : ∀ a, a < B → ∀ k, k < 42 → f a k = 0 ∨ ∃ e ∈ l, e.1 = a ∧ e.2.1 = k := by
  intro a ha k hk
  obtain ⟨hA, hB⟩ := Bool.and_eq_true _ _ |>.mp h
  by_cases q : k < kb a
  · have h1 := List.all_eq_true.mp (List.all_eq_true.mp hA a (List.mem_range.mpr ha)) k (List.mem_range.mpr q)
    rcases Bool.or_eq_true _ _ |>.mp h1 with e | e
    · exact Or.inl (Nat.eq_of_beq_eq_true e)
    · exact Or.inr (keyB_ok e)
  · rcases RF_kb hz (a := a) (k := k) (by omega) with e | e
    · exact Or.inl (by rw [hf a k ha, e])
    · by_cases z : ∃ e ∈ refL, e.1 = a ∧ e.2.1 = k
      · obtain ⟨x, hx, x1, x2⟩ := z
        rcases Bool.or_eq_true _ _ |>.mp (List.all_eq_true.mp hB x hx) with e | e
        · have := Nat.le_of_ble_eq_true e
          omega
        · rw [x1, x2] at e
          exact Or.inr (keyB_ok e)
      · refine Or.inl ?_
        rw [hf a k ha, e]
        exact lookR_no _ fun e he q => z ⟨e, he, q⟩
def l433 : List (Nat × Nat × Nat) := (100, 15, 432) :: (100, 14, 426) :: (426, 4, 431) :: (426, 3, 430) :: (426, 2, 429) :: (426, 1, 428) :: (426, 0, 427) :: (100, 13, 425) :: (100, 12, 420) :: (420, 3, 424) :: (420, 2, 423) :: (420, 1, 422) :: (420, 0, 421) :: (100, 11, 418) :: (418, 0, 419) :: (100, 10, 416) :: (416, 0, 417) :: (100, 9, 414) :: (414, 0, 415) :: (100, 8, 285) :: zHl 287 400 2 ++ (zHl 286 288 16 ++ ((285, 1, 287) :: (285, 0, 286) :: (100, 7, 282) :: (282, 4, 275) :: (282, 3, 190) :: (282, 1, 108) :: (282, 0, 103) :: (282, 2, 283) :: (283, 0, 284) :: (100, 6, 275) :: zSl 275 ++ ((100, 5, 268) :: zSl 268 ++ ((100, 4, 190) :: zW 190 31 ++ (zLa 190 ++ ((100, 3, 112) :: zW 112 31 ++ (zLa 112 ++ ((100, 2, 108) :: (108, 2, 111) :: (108, 1, 110) :: (108, 0, 109) :: (100, 1, 103) :: (103, 3, 107) :: (103, 2, 106) :: (103, 1, 105) :: (103, 0, 104) :: (100, 0, 101) :: (101, 0, 102) :: []))))))))
def sg0 (n : En) : Sg := (n, 112, 190, 268, 275, 190, 275)
def e0Z : En := (fun _ => (0, 0), fun _ _ => 0, 0, 0)
def n9 (n : En) (M : Nat) : En := (fun a => if a < 433 then n.1 a else (0, 0), fun _ _ => 0, 433, M)
theorem l433_ok (n : En) (M : Nat) : (fun a k => lookR a k l433) = RF (sg0 (n9 n M)) := by
  have e : RF (sg0 (n9 n M)) = RF (sg0 e0Z) := rfl
  rw [e]
  refine refs_eq _ _ 433 (by decide +kernel) (chkR_ok (σ := sg0 e0Z) (fun _ _ => rfl) (fun a k h => rfl) (by decide +kernel)) fun a k h => ?_
  rcases h with h | h
  · unfold RF
    rw [if_neg (by omega), if_neg (by omega), if_neg (by omega)]
    rfl
  · exact RF_hi (fun _ _ => rfl) (Or.inr h)
theorem Qh_hk {n : En} {M : Nat} {I : Nat → Nat → Int32} {L : Nat → Nat → Int64} : Qh n 433 M l433 I L = hk (sg0 (n9 n M)) I L := by
  have e : (fun a => if a < 433 then SH n a else (0, 0)) = SH (n9 n M) := by
    funext a
    unfold SH
    by_cases q : a < 433
    · rw [if_pos q]
      by_cases q1 : 100 ≤ a ∧ a < 433
      · rw [if_pos q1, if_pos q1]
      · rw [if_neg q1, if_neg q1]
        by_cases q2 : a = 2
        · rw [if_pos q2, if_pos q2]
        · rw [if_neg q2, if_neg q2]
          exact (if_pos q).symm
    · rw [if_neg q, if_neg (by omega), if_neg (by omega)]
      exact (if_neg q).symm
  unfold Qh hk
  rw [l433_ok n M, e]
  rfl
def chk9 (i : Nat) : Bool := decide (nI i >>> ((1 : Int32) &&& 31) = nI (i / 2)) && decide (nI i &&& (1 : Int32) = nI (i % 2)) && Nat.beq (th i) (th (i / 2) * 3 + i % 2)
theorem hd9 (i : Nat) (hi : i < 256) : nI i >>> ((1 : Int32) &&& 31) = nI (i / 2) ∧ nI i &&& (1 : Int32) = nI (i % 2) ∧ th i = th (i / 2) * 3 + i % 2 := by
  have h : (List.range 256).all chk9 = true := by decide +kernel
  have h1 := List.all_eq_true.mp h i (List.mem_range.mpr hi)
  obtain ⟨q, q3⟩ := Bool.and_eq_true _ _ |>.mp h1
  obtain ⟨q1, q2⟩ := Bool.and_eq_true _ _ |>.mp q
  exact ⟨of_decide_eq_true q1, of_decide_eq_true q2, Nat.eq_of_beq_eq_true q3⟩
section Cls
variable {n : En} {k M a s m c j v la : Nat} {l : List (Nat × Nat × Nat)} {I : Nat → Nat → Int32} {L : Nat → Nat → Int64}
theorem i9 (hZ : ∀ x, 421 ≤ x → I x = (fun _ => 0) ∧ L x = fun _ => 0) (hl : lB l 421) : ∃ r, mX9_init 420 (Qh n 421 M l I L) = some (Qh n 425 (M + 256 + 256 + 6561 + 6561) ((420, 3, 424) :: (420, 2, 423) :: (420, 1, 422) :: (420, 0, 421) :: l) (rowUp I 421 r) L) ∧ ∀ s, s < 256 → r s = nI (th s) := by
  obtain ⟨l2, hl2⟩ : ∃ l2, l2 = (420, 3, 424) :: (420, 2, 423) :: (420, 1, 422) :: (420, 0, 421) :: l := ⟨_, rfl⟩
  have e0 : lookR 420 0 l2 = 421 := by rw [hl2]; rfl
  unfold mX9_init
  rw [newA_Q (by omega) (SH_421 n) (hZ _ (by omega)) hl, b2s, sR_Q (by omega) (SH_420 n), obind, newA_Q (by omega) (SH_422 n) (hZ _ (by omega)) (by (repeat (refine lB.c (by omega) ?_)); exact hl.m (by omega)), b2s, sR_Q (by omega) (SH_420 n), obind, newA_Q (by omega) (SH_423 n) (hZ _ (by omega)) (by (repeat (refine lB.c (by omega) ?_)); exact hl.m (by omega)), b2s, sR_Q (by omega) (SH_420 n), obind, newA_Q (by omega) (SH_424 n) (hZ _ (by omega)) (by (repeat (refine lB.c (by omega) ?_)); exact hl.m (by omega)), b2s, sR_Q (by omega) (SH_420 n), obind]
  rw [← hl2]
  unfold mX9_init_l42
  obtain ⟨o, e, r, rfl, hr⟩ := lp_inv (f := fun s : Int32 × Hp => mX9_init_l42f 420 s.1 s.2) 255 (fun i st => ∃ r, st = (nI (i + 1), Qh n 425 (M + 256 + 256 + 6561 + 6561) l2 (rowUp I 421 r) L) ∧ ∀ s, s < i + 1 → r s = nI (th s)) (fun o => ∃ r, o = Qh n 425 (M + 256 + 256 + 6561 + 6561) l2 (rowUp I 421 r) L ∧ ∀ s, s < 256 → r s = nI (th s))
    (fun i st hi hQ => by
      obtain ⟨r, rfl, hr⟩ := hQ
      obtain ⟨d1, d2, d3⟩ := hd9 (i + 1) (by omega)
      refine ⟨_, ?_, updA r (i + 1) (nI (th (i + 1))), rfl, fun w hw => ?_⟩
      · show mX9_init_l42f 420 (nI (i + 1)) (Qh n 425 (M + 256 + 256 + 6561 + 6561) l2 (rowUp I 421 r) L) = _
        unfold mX9_init_l42f
        rw [if_pos (show nI (i + 1) < (256 : Int32) from nI_lt (a := i + 1) (b := 256) (by omega) (by omega)), gR_Q (by omega) (SH_420 n), obind, obind, e0, d1, at_Q (by omega) (SH_421 n) (by omega) (by omega), obind, rowUp_same, hr _ (by omega), d2, show (3 : Int32) = nI 3 from rfl, pk_mul, nI_add, ← d3, put_Q (by omega) (SH_421 n) (by omega) (by omega), obind, rowUp_two, rowUp_same, nI_1]
      · by_cases e : w = i + 1
        · subst e; exact updA_same _ _ _
        · rw [updA_ne _ _ e]; exact hr w (by omega))
    (fun st hQ => by
      obtain ⟨r, rfl, hr⟩ := hQ
      refine ⟨_, ?_, r, rfl, hr⟩
      show mX9_init_l42f 420 (nI (255 + 1)) _ = _
      unfold mX9_init_l42f
      rw [if_neg (by decide)]
      rfl) (s := (nI (0 + 1), Qh n 425 (M + 256 + 256 + 6561 + 6561) l2 (rowUp I 421 (I 421)) L)) ⟨I 421, rfl, fun w hw => by rw [(hZ 421 (by omega)).1, show w = 0 by omega]; rfl⟩
  rw [rowUp_id] at e
  exact ⟨r, e, hr⟩
end Cls
