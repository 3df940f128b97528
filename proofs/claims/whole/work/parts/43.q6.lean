section Q6
variable {σ : Sg} {I I' : Nat → Nat → Int32} {L L' : Nat → Nat → Int64}
/-- of the COUNTS: parents, and what is told the same -/
def igE (T N : Nat → Nat) (a b : Nat) : Bool := decide (it N b 7 = a) || (decide (a < T 2) && (decide (b < T 2) && (T (61 + a)).testBit b))
def igR (T N : Nat → Nat) (a b : Nat) : Bool := decide (a < N 18) && decide (b < N 18) && (igE T N a b || igE T N b a)
theorem igR_E {T N : Nat → Nat} {x y : Nat} (hx : x < N 18) (hy : y < N 18) (h : igE T N x y = true) : igR T N x y = true ∧ igR T N y x = true := by
  unfold igR
  rw [decide_eq_true hx, decide_eq_true hy, h]
  exact ⟨rfl, by simp⟩
theorem ig_fst {T N : Nat → Nat} (hW : WT T) (h : WN T N) {k : Nat} (hk' : k < N 18) : fz (igR T N) k = fst0 T (it N k 0) := by
  obtain ⟨_, _, _, h18, hc, _⟩ := h
  have w2 := hW.1.2.2.1
  -- from a COUNT to its own kind
  have up : ∀ n k, k ≤ n → k < N 18 → rea (igR T N) 8 k (it N k 0) = true := by
    intro n
    induction n with
    | zero =>
      intro k hk1 hk2
      obtain ⟨_, _, _, _, _, _, _, c7, _, ct, cn, _⟩ := hc k hk2
      by_cases hT : k < T 2
      · rw [(ct hT).2]; exact rea_rf _ _
      · have := cn (by omega); omega
    | succ n ih =>
      intro k hk1 hk2
      obtain ⟨_, _, _, _, _, _, _, c7, c70, ct, cn, _⟩ := hc k hk2
      by_cases hT : k < T 2
      · rw [(ct hT).2]; exact rea_rf _ _
      · have h7 := cn (by omega)
        have := ih (it N k 7) (by omega) (by omega)
        rw [c70] at this
        have e : igE T N (it N k 7) k = true := by unfold igE; rw [decide_eq_true rfl]; rfl
        exact rea_8 (by omega) (rea_cons (by omega) (igR_E (by omega) hk2 e).2 this)
  have sub : ∀ a b, smB T a b = true → igR T N a b = true := by
    intro a b hs
    unfold smB at hs
    rw [Bool.and_eq_true, Bool.and_eq_true, Bool.or_eq_true] at hs
    obtain ⟨⟨h1, h2⟩, h3⟩ := hs
    have h1 := of_decide_eq_true h1
    have h2 := of_decide_eq_true h2
    unfold igR igE
    rw [decide_eq_true h1, decide_eq_true h2, decide_eq_true (show a < N 18 by omega), decide_eq_true (show b < N 18 by omega)]
    rcases h3 with h3 | h3 <;> rw [h3] <;> simp
  have f5 : ∀ j, j < T 2 → fst0 T j ≤ j ∧ rea (smB T) 8 j (fst0 T j) = true := fun j hj => by
    obtain ⟨a, b, _⟩ := fz_spec (R := smB T) (show j < 8 by omega)
    exact ⟨a, b⟩
  have fe : ∀ a b, a < T 2 → b < T 2 → smB T a b = true → fst0 T a = fst0 T b := by
    intro a b ha hb hs
    have hs2 : smB T b a = true := by
      unfold smB at hs ⊢
      rw [decide_eq_true ha, decide_eq_true hb] at hs ⊢
      rw [Bool.or_comm]; exact hs
    obtain ⟨a1, a2, a3⟩ := fz_spec (R := smB T) (show a < 8 by omega)
    obtain ⟨b1, b2, b3⟩ := fz_spec (R := smB T) (show b < 8 by omega)
    have h1 := rea_8 (by omega) (rea_cons (by omega) hs b2)
    have h2 := rea_8 (by omega) (rea_cons (by omega) hs2 a2)
    show fz (smB T) a = fz (smB T) b
    rcases Nat.lt_trichotomy (fz (smB T) a) (fz (smB T) b) with q | q | q
    · have := b3 _ q; rw [h2] at this; cases this
    · exact q
    · have := a3 _ q; rw [h1] at this; cases this
  have key := fz_uniq (R := igR T N) (F := fun k => if k < N 18 then fst0 T (it N k 0) else k) (fun a c ha hc' hr => by
      unfold igR at hr
      rw [Bool.and_eq_true, Bool.and_eq_true, Bool.or_eq_true] at hr
      obtain ⟨⟨h1, h2⟩, h3⟩ := hr
      have h1 := of_decide_eq_true h1
      have h2 := of_decide_eq_true h2
      show (if a < N 18 then fst0 T (it N a 0) else a) = (if c < N 18 then fst0 T (it N c 0) else c)
      rw [if_pos h1, if_pos h2]
      have one : ∀ x y, x < N 18 → y < N 18 → igE T N x y = true → fst0 T (it N x 0) = fst0 T (it N y 0) := by
        intro x y hx hy he
        unfold igE at he
        rw [Bool.or_eq_true] at he
        rcases he with he | he
        · have he := of_decide_eq_true he
          obtain ⟨_, _, _, _, _, _, _, _, c70, _⟩ := hc y hy
          rw [← c70, he]
        · rw [Bool.and_eq_true, Bool.and_eq_true] at he
          obtain ⟨q1, q2, q3⟩ := he
          have q1 := of_decide_eq_true q1
          have q2 := of_decide_eq_true q2
          obtain ⟨_, _, _, _, _, _, _, _, _, ct, _⟩ := hc x hx
          obtain ⟨_, _, _, _, _, _, _, _, _, ct', _⟩ := hc y hy
          rw [(ct q1).2, (ct' q2).2]
          exact fe x y q1 q2 (by unfold smB; rw [decide_eq_true q1, decide_eq_true q2, q3]; rfl)
      rcases h3 with h3 | h3
      · exact one a c h1 h2 h3
      · exact (one c a h2 h1 h3).symm)
    (fun j hj => by
      show rea (igR T N) 8 j (if j < N 18 then fst0 T (it N j 0) else j) = true ∧ (if j < N 18 then fst0 T (it N j 0) else j) ≤ j
      by_cases hj' : j < N 18
      · rw [if_pos hj']
        obtain ⟨c0, _, _, _, _, _, _, _, _, ct, _⟩ := hc j hj'
        obtain ⟨f1, f2⟩ := f5 _ c0
        have g0 := up j j (Nat.le_refl _) hj'
        have g1 := rea_sub sub 8 _ _ f2
        refine ⟨?_, ?_⟩
        · -- join the two ways
          have join : ∀ n a, a < 8 → rea (igR T N) n a (it N j 0) = true → rea (igR T N) 8 a (fst0 T (it N j 0)) = true := by
            intro n
            induction n with
            | zero => intro a ha h; rw [of_decide_eq_true h]; exact g1
            | succ n ih =>
              intro a ha h
              rcases rea_inv h with h | ⟨c, hc1, h1, h2⟩
              · exact ih a ha h
              · exact rea_8 ha (rea_cons hc1 h1 (ih c hc1 h2))
          exact join 8 j hj g0
        · by_cases hT : j < T 2
          · rw [(ct hT).2] at f1 ⊢; exact f1
          · omega
      · rw [if_neg hj']; exact ⟨rea_rf _ _, Nat.le_refl _⟩) (k := k) (by omega)
  rw [key, if_pos hk']
theorem c_lt8 {i : Nat} (h : i < 8) {α : Type} (A B : α) : (if nI i < 8 then A else B) = A := c_lt (n := 8) h (by omega)
theorem mlaysInj_ok {T N : Nat → Nat} (h : MI I T N) : ∃ r, mX12_laysInjuries 433 (hk σ I L) = some (hk σ (rowUp I 450 r) L) ∧ ∀ k, k < N 18 → r k = nI (fst0 T (it N k 0)) := by
  obtain ⟨hT, hN, hW, hWN, _⟩ := id h
  have h18 := hWN.2.2.2.1.2
  have w2 := hW.1.2.2.1
  have hN' : ∀ r, rN (rowUp I 450 r) N := fun r i hi => by rw [rowUp_at, if_neg (by omega)]; exact hN i hi
  have hT' : ∀ r, rT (rowUp I 450 r) T := fun r i hi => by rw [rowUp_at, if_neg (by omega)]; exact hT i hi
  have g450 : ∀ r, gR 12 30 433 (hk σ (rowUp I 450 r) L) = some 450 := fun r => rfl
  -- one pair
  have pair : ∀ (x1 : Int32) (a b : Nat) (r M0 M : _), a < N 18 → b < N 18 → (∀ c, c < 8 → r c = nI (M c)) → swp (R := igR T N) (igE T N) (N 18) M0 M a b →
      ∃ r' M', mX12_laysInjuries_l44f 433 x1 (nI a) (nI b) (hk σ (rowUp I 450 r) L) = some (.inl (nI (b + 1), hk σ (rowUp I 450 r') L)) ∧ (∀ c, c < 8 → r' c = nI (M' c)) ∧ swp (R := igR T N) (igE T N) (N 18) M0 M' a (b + 1) := by
    intro x1 a b r M0 M ha hb hr hs
    have nx := swp_next h18 (fun x y hx hy he => igR_E hx hy he) ha hb hs
    have ma := (hs.1 a (by omega)).2.1
    have mb := (hs.1 b (by omega)).2.1
    have w61 : T (61 + a) < 32 ∨ ¬ a < T 2 := by
      by_cases hq : a < T 2
      · exact Or.inl (hW.2.2.1 a hq).2.2.2.2.2.2
      · exact Or.inr hq
    have yes : igE T N a b = true → ∃ r' M', mX12_laysInjuries_b102 433 x1 (nI a) (nI b) (hk σ (rowUp I 450 r) L) = some (.inl (nI (b + 1), hk σ (rowUp I 450 r') L)) ∧ (∀ c, c < 8 → r' c = nI (M' c)) ∧ swp (R := igR T N) (igE T N) (N 18) M0 M' a (b + 1) := by
      intro he
      rw [if_pos he] at nx
      refine ⟨updA (updA r a (nI (min (M a) (M b)))) b (nI (min (M a) (M b))), _, ?_, fun c hc => ?_, nx⟩
      · unfold mX12_laysInjuries_b102 mX12_laysInjuries_b107 mX12_laysInjuries_b147
        rw [if_neg (by decide), g450, obind, obind, ldI_ok (n := 8) rfl (by omega) (by omega), obind, obind, ldI_ok (n := 8) rfl (by omega) (by omega), obind, hpI_hk', rowUp_same, hr a (by omega), hr b (by omega), min_d (by omega) (by omega), stI_ok (n := 8) rfl (by omega) (by omega), obind, setI_hk, rowUp_two, hpI_hk', rowUp_same, g450, obind, obind, ldI_ok (n := 8) rfl (by omega) (by omega), obind, hpI_hk', rowUp_same, updA_same, stI_ok (n := 8) rfl (by omega) (by omega), obind, setI_hk, rowUp_two, hpI_hk', rowUp_same, nI_1]
      · show updA (updA r a (nI (min (M a) (M b)))) b (nI (min (M a) (M b))) c = nI (if c = a ∨ c = b then min (M a) (M b) else M c)
        rw [updA_at, updA_at]
        by_cases h1 : c = b
        · rw [if_pos h1, if_pos (Or.inr h1)]
        · by_cases h2 : c = a
          · rw [if_neg h1, if_pos h2, if_pos (Or.inl h2)]
          · rw [if_neg h1, if_neg h2, if_neg (by rintro (q | q); exact h2 q; exact h1 q)]; exact hr c hc
    have no : igE T N a b = false → ∃ r' M', mX12_laysInjuries_b106 433 x1 (nI a) (nI b) (hk σ (rowUp I 450 r) L) = some (.inl (nI (b + 1), hk σ (rowUp I 450 r') L)) ∧ (∀ c, c < 8 → r' c = nI (M' c)) ∧ swp (R := igR T N) (igE T N) (N 18) M0 M' a (b + 1) := by
      intro he
      rw [if_neg (by rw [he]; decide)] at nx
      refine ⟨r, M, ?_, hr, nx⟩
      unfold mX12_laysInjuries_b106 mX12_laysInjuries_b107 mX12_laysInjuries_b147
      rw [if_pos rfl, nI_1]
    unfold mX12_laysInjuries_l44f
    have h7 := (hWN.2.2.2.2.1 b hb).2.2.2.2.2.2.2.1
    rw [g438, L18, ldN (hN' r) (by omega), obind, c_lt hb (by omega), its_7 (hN' r) (by omega), obind, c_eqd (by omega) (by omega)]
    by_cases e7 : it N b 7 = a
    · rw [if_pos e7]
      exact yes (by unfold igE; rw [decide_eq_true e7]; rfl)
    · rw [if_neg e7, g434, show (2 : Int32) = nI 2 from rfl, ldT (hT' r) (by omega), obind]
      by_cases hat : a < T 2
      · rw [c_lt hat (by omega), g434, ldT (hT' r) (by omega), obind]
        by_cases hbt : b < T 2
        · rw [c_lt hbt (by omega), g434, show (61 : Int32) = nI 61 from rfl, nI_add, ldT (hT' r) (by omega), obind, mhas_nI (by omega) (by omega), obind, bI_if0]
          have ee : igE T N a b = (T (61 + a)).testBit b := by unfold igE; rw [decide_eq_false e7, decide_eq_true hat, decide_eq_true hbt]; simp
          rcases Bool.eq_false_or_eq_true ((T (61 + a)).testBit b) with q | q
          · rw [q, if_neg nTF]; exact yes (by rw [ee, q])
          · rw [q, if_pos rfl]; exact no (by rw [ee, q])
        · rw [c_nlt (by omega) (by omega)]
          exact no (by unfold igE; rw [decide_eq_false e7, decide_eq_false hbt]; simp)
      · rw [c_nlt (by omega) (by omega)]
        exact no (by unfold igE; rw [decide_eq_false e7, decide_eq_false hat]; simp)
  -- a row of pairs
  have row : ∀ (x1 : Int32) (a : Nat) (r M0 M : _), a < N 18 → (∀ c, c < 8 → r c = nI (M c)) → swp (R := igR T N) (igE T N) (N 18) M0 M a 0 →
      ∃ r' M', mX12_laysInjuries_l44 433 x1 (nI a) 0 (hk σ (rowUp I 450 r) L) = some (.inl (nI (a + 1), hk σ (rowUp I 450 r') L)) ∧ (∀ c, c < 8 → r' c = nI (M' c)) ∧ swp (R := igR T N) (igE T N) (N 18) M0 M' (a + 1) 0 := by
    intro x1 a r M0 M ha hr hs
    unfold mX12_laysInjuries_l44
    obtain ⟨o, e, r', M', rfl, q1, q2⟩ := lp_inv (f := fun s : Int32 × Hp => mX12_laysInjuries_l44f 433 x1 (nI a) s.1 s.2) (N 18) (fun i st => ∃ r M, st = (nI i, hk σ (rowUp I 450 r) L) ∧ (∀ c, c < 8 → r c = nI (M c)) ∧ swp (R := igR T N) (igE T N) (N 18) M0 M a i)
      (fun o => ∃ r' M', o = .inl (nI (a + 1), hk σ (rowUp I 450 r') L) ∧ (∀ c, c < 8 → r' c = nI (M' c)) ∧ swp (R := igR T N) (igE T N) (N 18) M0 M' (a + 1) 0)
      (fun i st hi hQ => by
        obtain ⟨r, M, rfl, hr, hs⟩ := hQ
        obtain ⟨r', M', e, h1, h2⟩ := pair x1 a i r M0 M ha hi hr hs
        exact ⟨_, e, r', M', rfl, h1, h2⟩)
      (fun st hQ => by
        obtain ⟨r, M, rfl, hr, hs⟩ := hQ
        refine ⟨_, ?_, r, M, rfl, hr, swp_row hs⟩
        show mX12_laysInjuries_l44f 433 x1 (nI a) (nI (N 18)) (hk σ (rowUp I 450 r) L) = _
        unfold mX12_laysInjuries_l44f
        rw [g438, L18, ldN (hN' r) (by omega), obind, c_nlt (Nat.le_refl _) (by omega), xts, nI_1]) (s := (nI 0, hk σ (rowUp I 450 r) L)) ⟨r, M, rfl, hr, hs⟩
    exact ⟨r', M', e, q1, q2⟩
  have round : ∀ (i : Nat) (r M : _), i < 8 → (∀ c, c < 8 → r c = nI (M c)) → swI (igR T N) M i →
      ∃ r' M', mX12_laysInjuries_l31 433 (nI i) 0 (hk σ (rowUp I 450 r) L) = some (.inl (nI (i + 1), hk σ (rowUp I 450 r') L)) ∧ (∀ c, c < 8 → r' c = nI (M' c)) ∧ swI (igR T N) M' (i + 1) := by
    intro i r M hi hr hs
    unfold mX12_laysInjuries_l31
    obtain ⟨o, e, r', M', rfl, q1, q2⟩ := lp_inv (f := fun s : Int32 × Hp => mX12_laysInjuries_l31f 433 (nI i) s.1 s.2) (N 18) (fun a st => ∃ r M', st = (nI a, hk σ (rowUp I 450 r) L) ∧ (∀ c, c < 8 → r c = nI (M' c)) ∧ swp (R := igR T N) (igE T N) (N 18) M M' a 0)
      (fun o => ∃ r' M', o = .inl (nI (i + 1), hk σ (rowUp I 450 r') L) ∧ (∀ c, c < 8 → r' c = nI (M' c)) ∧ swI (igR T N) M' (i + 1))
      (fun a st ha hQ => by
        obtain ⟨r, M', rfl, hr, hs⟩ := hQ
        obtain ⟨r', M'', e, h1, h2⟩ := row (nI i) a r M M' ha hr hs
        refine ⟨_, ?_, r', M'', rfl, h1, h2⟩
        show mX12_laysInjuries_l31f 433 (nI i) (nI a) (hk σ (rowUp I 450 r) L) = _
        unfold mX12_laysInjuries_l31f
        rw [g438, L18, ldN (hN' r) (by omega), obind, c_lt ha (by omega), e])
      (fun st hQ => by
        obtain ⟨r, M', rfl, hr, hs'⟩ := hQ
        refine ⟨_, ?_, r, M', rfl, hr, swI_s (n := N 18) (E := igE T N) (fun x y hx hy hxy => ?_) hs hs'⟩
        · show mX12_laysInjuries_l31f 433 (nI i) (nI (N 18)) (hk σ (rowUp I 450 r) L) = _
          unfold mX12_laysInjuries_l31f
          rw [g438, L18, ldN (hN' r) (by omega), obind, c_nlt (Nat.le_refl _) (by omega), xts, nI_1]
        · unfold igR at hxy
          rw [Bool.and_eq_true, Bool.and_eq_true, Bool.or_eq_true] at hxy
          exact ⟨of_decide_eq_true hxy.1.1, of_decide_eq_true hxy.1.2, hxy.2⟩) (s := (nI 0, hk σ (rowUp I 450 r) L)) ⟨r, M, rfl, hr, swp_0 hs⟩
    exact ⟨r', M', e, q1, q2⟩
  have eight : ∀ (r : Nat → Int32), (∀ c, c < 8 → r c = nI c) → ∃ r', mX12_laysInjuries_l23 433 0 (hk σ (rowUp I 450 r) L) = some (hk σ (rowUp I 450 r') L) ∧ ∀ k, k < N 18 → r' k = nI (fst0 T (it N k 0)) := by
    intro r hr
    unfold mX12_laysInjuries_l23
    obtain ⟨o, e, r', rfl, q1⟩ := lp_inv (f := fun s : Int32 × Hp => mX12_laysInjuries_l23f 433 s.1 s.2) 8 (fun i st => ∃ r M, st = (nI i, hk σ (rowUp I 450 r) L) ∧ (∀ c, c < 8 → r c = nI (M c)) ∧ swI (igR T N) M i)
      (fun o => ∃ r', o = hk σ (rowUp I 450 r') L ∧ ∀ k, k < N 18 → r' k = nI (fst0 T (it N k 0)))
      (fun i st hi hQ => by
        obtain ⟨r, M, rfl, hr, hs⟩ := hQ
        obtain ⟨r', M', e, h1, h2⟩ := round i r M hi hr hs
        refine ⟨_, ?_, r', M', rfl, h1, h2⟩
        show mX12_laysInjuries_l23f 433 (nI i) (hk σ (rowUp I 450 r) L) = _
        unfold mX12_laysInjuries_l23f
        rw [c_lt8 hi, e])
      (fun st hQ => by
        obtain ⟨r, M, rfl, hr, hs⟩ := hQ
        refine ⟨_, ?_, r, rfl, fun k hk' => ?_⟩
        · show mX12_laysInjuries_l23f 433 (nI 8) (hk σ (rowUp I 450 r) L) = _
          unfold mX12_laysInjuries_l23f
          rw [if_neg (by decide), xts]
        · rw [hr k (by omega), swI_8 hs (by omega), ig_fst hW hWN hk']) (s := (nI 0, hk σ (rowUp I 450 r) L)) ⟨r, fun c => c, rfl, hr, swI_0⟩
    exact ⟨r', e, q1⟩
  unfold mX12_laysInjuries
  rw [if_pos s433]
  unfold mX12_laysInjuries_l2
  obtain ⟨o, e, r', rfl, q1⟩ := lp_inv (f := fun s : Int32 × Hp => mX12_laysInjuries_l2f 433 s.1 s.2) 8 (fun i st => ∃ r, st = (nI i, hk σ (rowUp I 450 r) L) ∧ (∀ c, c < i → r c = nI c))
      (fun o => ∃ r', o = hk σ (rowUp I 450 r') L ∧ ∀ k, k < N 18 → r' k = nI (fst0 T (it N k 0)))
      (fun i st hi hQ => by
        obtain ⟨r, rfl, hr⟩ := hQ
        refine ⟨_, ?_, updA r i (nI i), rfl, fun c hc => ?_⟩
        · show mX12_laysInjuries_l2f 433 (nI i) (hk σ (rowUp I 450 r) L) = _
          unfold mX12_laysInjuries_l2f
          rw [c_lt8 hi, g450, obind, stI_ok (n := 8) rfl hi (by omega), obind, setI_hk, rowUp_two, hpI_hk', rowUp_same, nI_1]
        · rw [updA_at]
          split
          · rename_i q; rw [q]
          · exact hr c (by omega))
      (fun st hQ => by
        obtain ⟨r, rfl, hr⟩ := hQ
        obtain ⟨r', e, h1⟩ := eight r hr
        refine ⟨_, ?_, r', rfl, h1⟩
        show mX12_laysInjuries_l2f 433 (nI 8) (hk σ (rowUp I 450 r) L) = _
        unfold mX12_laysInjuries_l2f
        rw [if_neg (by decide), e, xts]) (s := (nI 0, hk σ (rowUp I 450 (I 450)) L)) ⟨I 450, rfl, fun c hc => absurd hc (Nat.not_lt_zero _)⟩
  rw [rowUp_id] at e
  exact ⟨r', e, q1⟩
end Q6
