section MPast
variable {σ : Sg} {I I' J I1 I2 : Nat → Nat → Int32} {L L' L1 L2 : Nat → Nat → Int64}
theorem ld438 {k : Nat} (hk' : k < 83) : ldI 438 (nI k) (hk σ I L) = some (I 438 k) := by rw [ldI_ok (n := 83) rfl hk' (by omega), hpI_hk]
theorem ld439 {k : Nat} (hk' : k < 1328) : ldI 439 (nI k) (hk σ I L) = some (I 439 k) := by rw [ldI_ok (n := 1328) rfl hk' (by omega), hpI_hk]
theorem ld440 {k : Nat} (hk' : k < 166) : ldI 440 (nI k) (hk σ I L) = some (I 440 k) := by rw [ldI_ok (n := 166) rfl hk' (by omega), hpI_hk]
theorem st438 {k : Nat} (r : Nat → Int32) (v : Int32) (hk' : k < 83) : stI 438 (nI k) v (hk σ (rowUp I 438 r) L) = some (hk σ (rowUp I 438 (updA r k v)) L) := by
  rw [stI_ok (n := 83) rfl hk' (by omega), setI_hk, rowUp_two, hpI_hk', rowUp_same]
theorem st439 {k : Nat} (r : Nat → Int32) (v : Int32) (hk' : k < 1328) : stI 439 (nI k) v (hk σ (rowUp I 439 r) L) = some (hk σ (rowUp I 439 (updA r k v)) L) := by
  rw [stI_ok (n := 1328) rfl hk' (by omega), setI_hk, rowUp_two, hpI_hk', rowUp_same]
theorem st440 {k : Nat} (r : Nat → Int32) (v : Int32) (hk' : k < 166) : stI 440 (nI k) v (hk σ (rowUp I 440 r) L) = some (hk σ (rowUp I 440 (updA r k v)) L) := by
  rw [stI_ok (n := 166) rfl hk' (by omega), setI_hk, rowUp_two, hpI_hk', rowUp_same]
theorem g8 {J : Nat → Nat → Int32} : gI 12 8 433 (hk σ J L) = some (J 433 8) := by rw [gI_ok s433, hpI_hk]
theorem kA_b50 {A : Nat} (hA : I 433 8 = nI A) (h16 : A < 16) : ∃ I', mX12_keepsAct_b50 433 (hk σ I L) = some (hk σ I' L) ∧ I' 433 8 = nI (A + 1) ∧ (∀ k, k ≠ 8 → I' 433 k = I 433 k) ∧ (∀ x, x ≠ 433 → x ≠ 439 → I' x = I x) ∧ ∀ i, I' 439 i = if 83 * A ≤ i ∧ i < 83 * A + 83 then I 438 (i - 83 * A) else I 439 i := by
  unfold mX12_keepsAct_b50 mX12_keepsAct_l52
  have key := lp_inv (f := fun s : Int32 × Hp => mX12_keepsAct_l52f 433 s.1 s.2) 83 (fun k st => ∃ r, st = (nI k, hk σ (rowUp I 439 r) L) ∧ ∀ i, r i = if 83 * A ≤ i ∧ i < 83 * A + k then I 438 (i - 83 * A) else I 439 i)
    (fun o => ∃ R, o = hk σ (rowUp (rowUp I 439 R) 433 (updA (I 433) 8 (nI (A + 1)))) L ∧ ∀ i, R i = if 83 * A ≤ i ∧ i < 83 * A + 83 then I 438 (i - 83 * A) else I 439 i)
    (fun k st hk' hQ => by
      obtain ⟨r, rfl, hr⟩ := hQ
      refine ⟨_, ?_, updA r (83 * A + k) (I 438 k), rfl, fun i => ?_⟩
      · show mX12_keepsAct_l52f 433 (nI k) (hk σ (rowUp I 439 r) L) = _
        unfold mX12_keepsAct_l52f
        rw [show (83 : Int32) = nI 83 from rfl, c_lt hk' (by omega), gM 5, RF_433_5, g8, obind, rowUp_ne _ _ (by omega), hA, g438, ld438 hk', obind, rowUp_ne _ _ (by omega), pk_mul, nI_add, st439 _ _ (by omega), obind, nI_1]
      · rw [updA_at, hr]
        by_cases e : i = 83 * A + k
        · subst e
          rw [if_pos rfl, if_pos (by omega), Nat.add_sub_cancel_left]
        · rw [if_neg e]
          by_cases q : 83 * A ≤ i ∧ i < 83 * A + k
          · rw [if_pos q, if_pos (by omega)]
          · rw [if_neg q, if_neg (by omega)])
    (fun st hQ => by
      obtain ⟨r, rfl, hr⟩ := hQ
      refine ⟨_, ?_, r, rfl, hr⟩
      show mX12_keepsAct_l52f 433 (nI 83) (hk σ (rowUp I 439 r) L) = _
      unfold mX12_keepsAct_l52f
      rw [if_neg (by decide), g8, obind, rowUp_ne _ _ (by omega), hA, nI_1, sI_ok s433, obind, setI_hk, hpI_hk', rowUp_ne _ _ (by omega), xts]) (s := (0, hk σ (rowUp I 439 (I 439)) L)) ⟨I 439, rfl, fun i => by rw [if_neg (by omega)]⟩
  obtain ⟨o, e, R, rfl, hR⟩ := key
  rw [rowUp_id] at e
  exact ⟨_, e, by rw [rowUp_same, updA_same], fun k hk' => by rw [rowUp_same, updA_ne _ _ hk'], fun x x1 x2 => by rw [rowUp_ne _ _ x1, rowUp_ne _ _ x2], fun i => by rw [rowUp_ne _ _ (by omega), rowUp_same, hR]⟩
/-- keepsAct -/
theorem kact_ok {a : Nat} {P : Nat → Nat → Nat} {N : Nat → Nat} (h : HM I a P) (ha : a ≤ 16) (hN : rN I N) :
    ∃ I', mX12_keepsAct 433 (hk σ I L) = some (hk σ I' L) ∧ HM I' (min (a + 1) 16) (psh a P N) ∧ (∀ x, x ≠ 433 → x ≠ 439 → I' x = I x) ∧ ∀ k, k ≠ 8 → I' 433 k = I 433 k := by
  obtain ⟨h8, hP⟩ := h
  unfold mX12_keepsAct
  rw [if_pos s433, g8, obind, h8, show (16 : Int32) = nI 16 from rfl, c_eqd (by omega) (by omega)]
  by_cases h6 : a = 16
  · subst h6
    rw [if_pos rfl]
    unfold mX12_keepsAct_l12
    have key := lp_inv (f := fun s : Int32 × Hp => mX12_keepsAct_l12f 433 s.1 s.2) 1245 (fun k st => ∃ r, st = (nI (83 + k), hk σ (rowUp I 439 r) L) ∧ ∀ i, r i = if i < k then I 439 (83 + i) else I 439 i)
      (fun o => ∃ I', o = hk σ I' L ∧ HM I' 16 (psh 16 P N) ∧ (∀ x, x ≠ 433 → x ≠ 439 → I' x = I x) ∧ ∀ k, k ≠ 8 → I' 433 k = I 433 k)
      (fun k st hk' hQ => by
        obtain ⟨r, rfl, hr⟩ := hQ
        refine ⟨_, ?_, updA r k (I 439 (83 + k)), rfl, fun i => ?_⟩
        · show mX12_keepsAct_l12f 433 (nI (83 + k)) (hk σ (rowUp I 439 r) L) = _
          unfold mX12_keepsAct_l12f
          rw [show (1328 : Int32) = nI 1328 from rfl, c_lt (by omega) (by omega), gM 5, RF_433_5, gM 5, RF_433_5, ld439 (by omega), obind, rowUp_same, hr, if_neg (by omega), show (83 : Int32) = nI 83 from rfl, nI_sub (by omega), Nat.add_sub_cancel_left, st439 _ _ (by omega), obind, show nI (83 + k) + 1 = nI (83 + (k + 1)) from nI_1 _]
        · rw [updA_at, hr]
          by_cases e : i = k
          · subst e; rw [if_pos rfl, if_pos (by omega)]
          · rw [if_neg e]
            by_cases q : i < k
            · rw [if_pos q, if_pos (by omega)]
            · rw [if_neg q, if_neg (by omega)])
      (fun st hQ => by
        obtain ⟨r, rfl, hr⟩ := hQ
        obtain ⟨I', e2, b1, b2, b3, hR⟩ := kA_b50 (σ := σ) (I := rowUp (rowUp I 439 r) 433 (updA (I 433) 8 (nI 15))) (L := L) (A := 15) (by rw [rowUp_same, updA_same]) (by omega)
        refine ⟨hk σ I' L, ?_, I', rfl, ⟨b1, fun j hj i hi => ?_⟩, fun x x1 x2 => ?_, fun k hk' => ?_⟩
        · show mX12_keepsAct_l12f 433 (nI (83 + 1245)) (hk σ (rowUp I 439 r) L) = _
          unfold mX12_keepsAct_l12f
          rw [if_neg (by decide), g8, obind, rowUp_ne _ _ (by omega), h8, nI_s1 (by omega), sI_ok s433, obind, setI_hk, hpI_hk', rowUp_ne _ _ (by omega), e2, xts]
        · rw [hR]
          unfold psh
          rw [if_neg (show ¬ 16 < 16 by omega)]
          by_cases e : j = 15
          · subst e
            rw [if_pos rfl, if_pos (by omega), rowUp_ne _ _ (by omega), rowUp_ne _ _ (by omega), Nat.add_sub_cancel_left]
            exact hN i hi
          · rw [if_neg e, if_neg (by omega), rowUp_ne _ _ (by omega), rowUp_same, hr, if_pos (by omega), show 83 + (83 * j + i) = 83 * (j + 1) + i by omega]
            exact hP (j + 1) (by omega) i hi
        · rw [b3 x x1 x2, rowUp_ne _ _ x1, rowUp_ne _ _ x2]
        · rw [b2 k hk', rowUp_same, updA_ne _ _ hk']) (s := (83, hk σ (rowUp I 439 (I 439)) L)) ⟨I 439, rfl, fun i => by rw [if_neg (by omega)]⟩
    obtain ⟨o, e, I', rfl, q1, q2, q3⟩ := key
    rw [rowUp_id] at e
    exact ⟨I', e, q1, q2, q3⟩
  · rw [if_neg h6]
    obtain ⟨I', e2, b1, b2, b3, hR⟩ := kA_b50 (σ := σ) (L := L) h8 (by omega)
    refine ⟨I', e2, ⟨by rw [b1, Nat.min_eq_left (by omega)], fun j hj i hi => ?_⟩, b3, b2⟩
    rw [Nat.min_eq_left (by omega)] at hj
    rw [hR]
    unfold psh
    rw [if_pos (show a < 16 by omega)]
    by_cases e : j = a
    · subst e
      rw [if_pos rfl, if_pos (by omega), Nat.add_sub_cancel_left]
      exact hN i hi
    · rw [if_neg e, if_neg (by omega)]
      exact hP j (by omega) i hi
/-- undo -/
theorem mundo_ok {a : Nat} {P : Nat → Nat → Nat} {T : Nat → Nat} (h : HM I a P) (ha : a ≤ 16) (h0 : 0 < a) (hb : ∀ f, f < 8 → P (a - 1) f ≤ 4 ∧ P (a - 1) (8 + f) ≤ 1) (hc : Rm (I 444) 0 (poss T)) :
    ∃ I', mX12_undo 433 (hk σ I L) = some (nI (a - 1), hk σ I' L) ∧ HM I' (a - 1) P ∧ rN I' (P (a - 1)) ∧ Rm (I' 447) 0 (lft T (P (a - 1))) ∧ (∀ x, x ≠ 433 → x ≠ 438 → x ≠ 447 → I' x = I x) ∧ ∀ k, k ≠ 8 → I' 433 k = I 433 k := by
  obtain ⟨h8, hP⟩ := h
  unfold mX12_undo mX12_undo_l21
  rw [if_pos s433, g8, obind, h8, c_0 (by omega), if_neg (by omega), obind, nI_s1 h0, sI_ok s433, obind, setI_hk, hpI_hk']
  obtain ⟨J, hJ⟩ : ∃ J, J = rowUp I 433 (updA (I 433) 8 (nI (a - 1))) := ⟨_, rfl⟩
  rw [← hJ]
  have j8 : J 433 8 = nI (a - 1) := by rw [hJ, rowUp_same, updA_same]
  have jo : ∀ x, x ≠ 433 → J x = I x := fun x hx => by rw [hJ, rowUp_ne _ _ hx]
  have key := lp_inv (f := fun s : Int32 × Hp => mX12_undo_l21f 433 s.1 s.2) 83 (fun k st => ∃ r, st = (nI k, hk σ (rowUp J 438 r) L) ∧ ∀ i, i < k → r i = nI (P (a - 1) i))
    (fun o => ∃ I', o = (nI (a - 1), hk σ I' L) ∧ HM I' (a - 1) P ∧ rN I' (P (a - 1)) ∧ Rm (I' 447) 0 (lft T (P (a - 1))) ∧ (∀ x, x ≠ 433 → x ≠ 438 → x ≠ 447 → I' x = I x) ∧ ∀ k, k ≠ 8 → I' 433 k = I 433 k)
    (fun k st hk' hQ => by
      obtain ⟨r, rfl, hr⟩ := hQ
      refine ⟨_, ?_, updA r k (I 439 (83 * (a - 1) + k)), rfl, fun i hi => ?_⟩
      · show mX12_undo_l21f 433 (nI k) (hk σ (rowUp J 438 r) L) = _
        unfold mX12_undo_l21f
        rw [show (83 : Int32) = nI 83 from rfl, c_lt hk' (by omega), g438, gM 5, RF_433_5, g8, obind, rowUp_ne _ _ (by omega), j8, pk_mul, nI_add, ld439 (by omega), obind, rowUp_ne _ _ (by omega), jo _ (by omega), st438 _ _ hk', obind, nI_1]
      · rw [updA_at]
        by_cases e : i = k
        · subst e; rw [if_pos rfl]; exact hP (a - 1) (by omega) i hk'
        · rw [if_neg e]; exact hr i (by omega))
    (fun st hQ => by
      obtain ⟨r, rfl, hr⟩ := hQ
      obtain ⟨q, e2, hq⟩ := laysKnown_ok (σ := σ) (I := rowUp J 438 r) (L := L) (T := T) (N := P (a - 1)) (fun i hi => by rw [rowUp_same]; exact hr i hi) hb (by rw [rowUp_ne _ _ (by omega), jo _ (by omega)]; exact hc)
      refine ⟨(nI (a - 1), hk σ (rowUp (rowUp J 438 r) 447 q) L), ?_, rowUp (rowUp J 438 r) 447 q, rfl, ⟨by rw [rowUp_ne _ _ (by omega), rowUp_ne _ _ (by omega), j8], fun j hj i hi => ?_⟩, fun i hi => ?_, by rw [rowUp_same]; exact hq, fun x x1 x2 x3 => ?_, fun k hk' => ?_⟩
      · show mX12_undo_l21f 433 (nI 83) (hk σ (rowUp J 438 r) L) = _
        unfold mX12_undo_l21f
        rw [if_neg (by decide), e2, obind, g8, obind, rowUp_ne _ _ (by omega), rowUp_ne _ _ (by omega), j8, xts]
      · rw [rowUp_ne _ _ (by omega), rowUp_ne _ _ (by omega), jo _ (by omega)]
        exact hP j (by omega) i hi
      · rw [rowUp_ne _ _ (by omega), rowUp_same]; exact hr i hi
      · rw [rowUp_ne _ _ x3, rowUp_ne _ _ x2, jo _ x1]
      · rw [rowUp_ne _ _ (by omega), rowUp_ne _ _ (by omega), hJ, rowUp_same, updA_ne _ _ hk']) (s := (0, hk σ (rowUp J 438 (J 438)) L)) ⟨J 438, rfl, fun i hi => by omega⟩
  obtain ⟨o, e, I', rfl, hI'⟩ := key
  rw [rowUp_id] at e
  exact ⟨I', e, hI'⟩
/-- keep -/
theorem mkeep_ok {i : Nat} {K : Nat → Bool} {Q : Nat → Nat → Nat} {N : Nat → Nat} (h : KM I K Q) (hi : i < 2) (hN : rN I N) :
    ∃ I', mX12_keep 433 (nI i) (hk σ I L) = some (1, hk σ I' L) ∧ KM I' (updA K i true) (updA Q i N) ∧ ∀ x, x ≠ 440 → x ≠ 441 → I' x = I x := by
  have hd : decide (0 ≤ (nI i).toInt ∧ (nI i).toInt < (2 : Nat)) = true := by
    rw [nI_toInt (by omega)]; exact decide_eq_true (by omega)
  unfold mX12_keep mX12_keep_l20
  rw [if_pos s433, in_1, hd, obind, bI_if0, if_neg nTF, gM 7, RF_433_7, stZ_ok (n := 2) rfl hi (by omega) (Or.inr rfl), obind, setI_hk, hpI_hk']
  obtain ⟨J, hJ⟩ : ∃ J, J = rowUp I 441 (updA (I 441) i 1) := ⟨_, rfl⟩
  rw [← hJ]
  have jo : ∀ x, x ≠ 441 → J x = I x := fun x hx => by rw [hJ, rowUp_ne _ _ hx]
  have key := lp_inv (f := fun s : Int32 × Hp => mX12_keep_l20f 433 (nI i) s.1 s.2) 83 (fun k st => ∃ r, st = (nI k, hk σ (rowUp J 440 r) L) ∧ ∀ j, r j = if 83 * i ≤ j ∧ j < 83 * i + k then I 438 (j - 83 * i) else I 440 j)
    (fun o => ∃ I', o = (1, hk σ I' L) ∧ KM I' (updA K i true) (updA Q i N) ∧ ∀ x, x ≠ 440 → x ≠ 441 → I' x = I x)
    (fun k st hk' hQ => by
      obtain ⟨r, rfl, hr⟩ := hQ
      refine ⟨_, ?_, updA r (83 * i + k) (I 438 k), rfl, fun j => ?_⟩
      · show mX12_keep_l20f 433 (nI i) (nI k) (hk σ (rowUp J 440 r) L) = _
        unfold mX12_keep_l20f
        rw [show (83 : Int32) = nI 83 from rfl, c_lt hk' (by omega), gM 6, RF_433_6, g438, ld438 hk', obind, rowUp_ne _ _ (by omega), jo _ (by omega), pk_mul, nI_add, st440 _ _ (by omega), obind, nI_1]
      · rw [updA_at, hr]
        by_cases e : j = 83 * i + k
        · subst e
          rw [if_pos rfl, if_pos (by omega), Nat.add_sub_cancel_left]
        · rw [if_neg e]
          by_cases q : 83 * i ≤ j ∧ j < 83 * i + k
          · rw [if_pos q, if_pos (by omega)]
          · rw [if_neg q, if_neg (by omega)])
    (fun st hQ => by
      obtain ⟨r, rfl, hr⟩ := hQ
      refine ⟨(1, hk σ (rowUp J 440 r) L), ?_, rowUp J 440 r, rfl, fun j hj => ⟨?_, fun hk' m hm => ?_⟩, fun x x1 x2 => ?_⟩
      · show mX12_keep_l20f 433 (nI i) (nI 83) (hk σ (rowUp J 440 r) L) = _
        unfold mX12_keep_l20f
        rw [if_neg (by decide), xts]
      · rw [rowUp_ne _ _ (by omega), hJ, rowUp_same, updA_at, updA_at]
        by_cases e : j = i
        · rw [if_pos e, if_pos e]; rfl
        · rw [if_neg e, if_neg e]; exact (h j hj).1
      · rw [rowUp_same, hr]
        by_cases e : j = i
        · subst e
          rw [if_pos (by omega), updA_same, Nat.add_sub_cancel_left]
          exact hN m hm
        · rw [updA_ne _ _ e] at hk' ⊢
          rw [if_neg (by omega)]
          exact (h j hj).2 hk' m hm
      · rw [rowUp_ne _ _ x1, jo _ x2]) (s := (0, hk σ (rowUp J 440 (J 440)) L)) ⟨J 440, rfl, fun j => by rw [if_neg (by omega), jo _ (by omega)]⟩
  obtain ⟨o, e, I', rfl, hI'⟩ := key
  rw [rowUp_id] at e
  exact ⟨I', e, hI'⟩
/-- again -/
theorem magain_ok {a i : Nat} {P : Nat → Nat → Nat} {K : Nat → Bool} {Q : Nat → Nat → Nat} {T N : Nat → Nat} (hh : HM I a P) (ha : a ≤ 16) (h : KM I K Q) (hi : i < 2) (hk' : K i = true) (hN : rN I N) (hb : ∀ f, f < 8 → Q i f ≤ 4 ∧ Q i (8 + f) ≤ 1) (hc : Rm (I 444) 0 (poss T)) :
    ∃ I', mX12_again 433 (nI i) (hk σ I L) = some (1, hk σ I' L) ∧ HM I' (min (a + 1) 16) (psh a P N) ∧ rN I' (Q i) ∧ Rm (I' 447) 0 (lft T (Q i)) ∧ (∀ x, x ≠ 433 → x ≠ 438 → x ≠ 439 → x ≠ 447 → I' x = I x) ∧ ∀ k, k ≠ 8 → I' 433 k = I 433 k := by
  have hd : decide (0 ≤ (nI i).toInt ∧ (nI i).toInt < (2 : Nat)) = true := by
    rw [nI_toInt (by omega)]; exact decide_eq_true (by omega)
  obtain ⟨J, ej, hj, jo, j3⟩ := kact_ok (σ := σ) (L := L) hh ha hN
  obtain ⟨h1, h2⟩ := h i hi
  have h2 := h2 hk'
  unfold mX12_again mX12_again_l26
  rw [if_pos s433, in_1, hd, obind, bI_if0, if_neg nTF, gM 7, RF_433_7, ldZ_ok (n := 2) rfl hi (by omega), obind, hpI_hk', h1, bI_if0, hk', if_neg nTF, ej, obind]
  have key := lp_inv (f := fun s : Int32 × Hp => mX12_again_l26f 433 (nI i) s.1 s.2) 83 (fun k st => ∃ r, st = (nI k, hk σ (rowUp J 438 r) L) ∧ ∀ m, m < k → r m = nI (Q i m))
    (fun o => ∃ I', o = (1, hk σ I' L) ∧ HM I' (min (a + 1) 16) (psh a P N) ∧ rN I' (Q i) ∧ Rm (I' 447) 0 (lft T (Q i)) ∧ (∀ x, x ≠ 433 → x ≠ 438 → x ≠ 439 → x ≠ 447 → I' x = I x) ∧ ∀ k, k ≠ 8 → I' 433 k = I 433 k)
    (fun k st hk' hQ => by
      obtain ⟨r, rfl, hr⟩ := hQ
      refine ⟨_, ?_, updA r k (I 440 (83 * i + k)), rfl, fun m hm => ?_⟩
      · show mX12_again_l26f 433 (nI i) (nI k) (hk σ (rowUp J 438 r) L) = _
        unfold mX12_again_l26f
        rw [show (83 : Int32) = nI 83 from rfl, c_lt hk' (by omega), g438, gM 6, RF_433_6, pk_mul, nI_add, ld440 (by omega), obind, rowUp_ne _ _ (by omega), jo _ (by omega) (by omega), st438 _ _ hk', obind, nI_1]
      · rw [updA_at]
        by_cases e : m = k
        · subst e; rw [if_pos rfl]; exact h2 m hk'
        · rw [if_neg e]; exact hr m (by omega))
    (fun st hQ => by
      obtain ⟨r, rfl, hr⟩ := hQ
      obtain ⟨q, e2, hq⟩ := laysKnown_ok (σ := σ) (I := rowUp J 438 r) (L := L) (T := T) (N := Q i) (fun m hm => by rw [rowUp_same]; exact hr m hm) hb (by rw [rowUp_ne _ _ (by omega), jo _ (by omega) (by omega)]; exact hc)
      refine ⟨(1, hk σ (rowUp (rowUp J 438 r) 447 q) L), ?_, rowUp (rowUp J 438 r) 447 q, rfl, ⟨by rw [rowUp_ne _ _ (by omega), rowUp_ne _ _ (by omega)]; exact hj.1, fun j hj' m hm => ?_⟩, fun m hm => ?_, by rw [rowUp_same]; exact hq, fun x x1 x2 x3 x4 => ?_, fun k hk' => ?_⟩
      · show mX12_again_l26f 433 (nI i) (nI 83) (hk σ (rowUp J 438 r) L) = _
        unfold mX12_again_l26f
        rw [if_neg (by decide), e2, obind, xts]
      · rw [rowUp_ne _ _ (by omega), rowUp_ne _ _ (by omega)]
        exact hj.2 j hj' m hm
      · rw [rowUp_ne _ _ (by omega), rowUp_same]; exact hr m hm
      · rw [rowUp_ne _ _ x4, rowUp_ne _ _ x2, jo _ x1 x3]
      · rw [rowUp_ne _ _ (by omega), rowUp_ne _ _ (by omega)]; exact j3 k hk') (s := (0, hk σ (rowUp J 438 (J 438)) L)) ⟨J 438, rfl, fun m hm => by omega⟩
  obtain ⟨o, e, I', rfl, hI'⟩ := key
  rw [rowUp_id] at e
  exact ⟨I', e, hI'⟩
/-- makes -/
def mkn (N : Nat → Nat) (f how so : Nat) : Nat → Nat := updA (updA N f how) (8 + f) so
theorem makes_ok {T N : Nat → Nat} {f how so : Nat} (hN : rN I N) (hf : f < 8) (hb : ∀ f, f < 8 → N f ≤ 4 ∧ N (8 + f) ≤ 1) (hh : how ≤ 4) (hs : so ≤ 1) (hc : Rm (I 444) 0 (poss T)) :
    ∃ I', mX12_makes 433 (nI f) (nI how) (nI so) (hk σ I L) = some (hk σ I' L) ∧ rN I' (mkn N f how so) ∧ Rm (I' 447) 0 (lft T (mkn N f how so)) ∧ ∀ x, x ≠ 438 → x ≠ 447 → I' x = I x := by
  obtain ⟨R, hR⟩ : ∃ R, R = updA (updA (I 438) f (nI how)) (8 + f) (nI so) := ⟨_, rfl⟩
  have rn : rN (rowUp I 438 R) (mkn N f how so) := fun i hi => by
    rw [rowUp_same, hR]
    unfold mkn
    rw [updA_at, updA_at, updA_at, updA_at]
    split
    · rfl
    · split
      · rfl
      · exact hN i hi
  obtain ⟨q, e, hq⟩ := laysKnown_ok (σ := σ) (I := rowUp I 438 R) (L := L) (T := T) rn (fun g hg => by
    unfold mkn
    rw [updA_at, updA_at, updA_at, updA_at]
    have := hb g hg
    split <;> split <;> (try split) <;> (try split) <;> omega) (by rw [rowUp_ne _ _ (by omega)]; exact hc)
  refine ⟨rowUp (rowUp I 438 R) 447 q, ?_, fun i hi => by rw [rowUp_ne _ _ (by omega)]; exact rn i hi, by rw [rowUp_same]; exact hq, fun x x1 x2 => by rw [rowUp_ne _ _ x2, rowUp_ne _ _ x1]⟩
  unfold mX12_makes
  rw [if_pos s433, g438, show (0 : Int32) = nI 0 from rfl, nI_add, Nat.zero_add, stI_ok (n := 83) rfl (by omega) (by omega), obind, setI_hk, hpI_hk', g438, show (8 : Int32) = nI 8 from rfl, nI_add, st438 _ _ (by omega), obind, ← hR, e, obind]
end MPast
