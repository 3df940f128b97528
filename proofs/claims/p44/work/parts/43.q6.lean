section Q6
variable {σ : Sg} {I I' : Nat → Nat → Int32} {L L' : Nat → Nat → Int64}
/-- of the COUNTS: parents, and what is told the same -/
def igE (T N : Nat → Nat) (a b : Nat) : Bool := decide (it N b 7 = a) || (decide (a < T 2) && (decide (b < T 2) && (T (61 + a)).testBit b))
def igR (T N : Nat → Nat) (a b : Nat) : Bool := decide (a < N 18) && decide (b < N 18) && (igE T N a b || igE T N b a)
theorem igR_E {T N : Nat → Nat} {x y : Nat} (hx : x < N 18) (hy : y < N 18) (h : igE T N x y = true) : igR T N x y = true ∧ igR T N y x = true := by
  unfold igR
  rw [decide_eq_true hx, decide_eq_true hy, h]
  exact ⟨rfl, by simp⟩
theorem ig_fst {T N : Nat → Nat} (hW : WT T) (h : WN T N) {k : Nat} (hk' : k < N 18) : fz (igR T N) k = fst0 T (it N k 0) := by
  obtain ⟨_, _, _, h18, hc, _⟩ := h
  have w2 := hW.1.2.2.1
  -- from a COUNT to its own kind
  have up : ∀ n k, k ≤ n → k < N 18 → rea (igR T N) 8 k (it N k 0) = true := by
    intro n
    induction n with
    | zero =>
      intro k hk1 hk2
      obtain ⟨_, _, _, _, _, _, _, c7, _, ct, cn, _⟩ := hc k hk2
      by_cases hT : k < T 2
      · rw [(ct hT).2]; exact rea_rf _ _
      · have := cn (by omega); omega
    | succ n ih =>
      intro k hk1 hk2
      obtain ⟨_, _, _, _, _, _, _, c7, c70, ct, cn, _⟩ := hc k hk2
      by_cases hT : k < T 2
      · rw [(ct hT).2]; exact rea_rf _ _
      · have h7 := cn (by omega)
        have := ih (it N k 7) (by omega) (by omega)
        rw [c70] at this
        have e : igE T N (it N k 7) k = true := by unfold igE; rw [decide_eq_true rfl]; rfl
        exact rea_8 (by omega) (rea_cons (by omega) (igR_E (by omega) hk2 e).2 this)
  have sub : ∀ a b, smB T a b = true → igR T N a b = true := by
    intro a b hs
    unfold smB at hs
    rw [Bool.and_eq_true, Bool.and_eq_true, Bool.or_eq_true] at hs
    obtain ⟨⟨h1, h2⟩, h3⟩ := hs
    have h1 := of_decide_eq_true h1
    have h2 := of_decide_eq_true h2
    unfold igR igE
    rw [decide_eq_true h1, decide_eq_true h2, decide_eq_true (show a < N 18 by omega), decide_eq_true (show b < N 18 by omega)]
    rcases h3 with h3 | h3 <;> rw [h3] <;> simp
  have f5 : ∀ j, j < T 2 → fst0 T j ≤ j ∧ rea (smB T) 8 j (fst0 T j) = true := fun j hj => by
    obtain ⟨a, b, _⟩ := fz_spec (R := smB T) (show j < 8 by omega)
    exact ⟨a, b⟩
  have fe : ∀ a b, a < T 2 → b < T 2 → smB T a b = true → fst0 T a = fst0 T b := by
    intro a b ha hb hs
    have hs2 : smB T b a = true := by
      unfold smB at hs ⊢
      rw [decide_eq_true ha, decide_eq_true hb] at hs ⊢
      rw [Bool.or_comm]; exact hs
    obtain ⟨a1, a2, a3⟩ := fz_spec (R := smB T) (show a < 8 by omega)
    obtain ⟨b1, b2, b3⟩ := fz_spec (R := smB T) (show b < 8 by omega)
    have h1 := rea_8 (by omega) (rea_cons (by omega) hs b2)
    have h2 := rea_8 (by omega) (rea_cons (by omega) hs2 a2)
    show fz (smB T) a = fz (smB T) b
    rcases Nat.lt_trichotomy (fz (smB T) a) (fz (smB T) b) with q | q | q
    · have := b3 _ q; rw [h2] at this; cases this
    · exact q
    · have := a3 _ q; rw [h1] at this; cases this
  have key := fz_uniq (R := igR T N) (F := fun k => if k < N 18 then fst0 T (it N k 0) else k) (fun a c ha hc' hr => by
      unfold igR at hr
      rw [Bool.and_eq_true, Bool.and_eq_true, Bool.or_eq_true] at hr
      obtain ⟨⟨h1, h2⟩, h3⟩ := hr
      have h1 := of_decide_eq_true h1
      have h2 := of_decide_eq_true h2
      show (if a < N 18 then fst0 T (it N a 0) else a) = (if c < N 18 then fst0 T (it N c 0) else c)
      rw [if_pos h1, if_pos h2]
      have one : ∀ x y, x < N 18 → y < N 18 → igE T N x y = true → fst0 T (it N x 0) = fst0 T (it N y 0) := by
        intro x y hx hy he
        unfold igE at he
        rw [Bool.or_eq_true] at he
        rcases he with he | he
        · have he := of_decide_eq_true he
          obtain ⟨_, _, _, _, _, _, _, _, c70, _⟩ := hc y hy
          rw [← c70, he]
        · rw [Bool.and_eq_true, Bool.and_eq_true] at he
          obtain ⟨q1, q2, q3⟩ := he
          have q1 := of_decide_eq_true q1
          have q2 := of_decide_eq_true q2
          obtain ⟨_, _, _, _, _, _, _, _, _, ct, _⟩ := hc x hx
          obtain ⟨_, _, _, _, _, _, _, _, _, ct', _⟩ := hc y hy
          rw [(ct q1).2, (ct' q2).2]
          exact fe x y q1 q2 (by unfold smB; rw [decide_eq_true q1, decide_eq_true q2, q3]; rfl)
      rcases h3 with h3 | h3
      · exact one a c h1 h2 h3
      · exact (one c a h2 h1 h3).symm)
    (fun j hj => by
      show rea (igR T N) 8 j (if j < N 18 then fst0 T (it N j 0) else j) = true ∧ (if j < N 18 then fst0 T (it N j 0) else j) ≤ j
      by_cases hj' : j < N 18
      · rw [if_pos hj']
        obtain ⟨c0, _, _, _, _, _, _, _, _, ct, _⟩ := hc j hj'
        obtain ⟨f1, f2⟩ := f5 _ c0
        have g0 := up j j (Nat.le_refl _) hj'
        have g1 := rea_sub sub 8 _ _ f2
        refine ⟨?_, ?_⟩
        · -- join the two ways
          have join : ∀ n a, a < 8 → rea (igR T N) n a (it N j 0) = true → rea (igR T N) 8 a (fst0 T (it N j 0)) = true := by
            intro n
            induction n with
            | zero => intro a ha h; rw [of_decide_eq_true h]; exact g1
            | succ n ih =>
              intro a ha h
              rcases rea_inv h with h | ⟨c, hc1, h1, h2⟩
              · exact ih a ha h
              · exact rea_8 ha (rea_cons hc1 h1 (ih c hc1 h2))
          exact join 8 j hj g0
        · by_cases hT : j < T 2
          · rw [(ct hT).2] at f1 ⊢; exact f1
          · omega
      · rw [if_neg hj']; exact ⟨rea_rf _ _, Nat.le_refl _⟩) (k := k) (by omega)
  rw [key, if_pos hk']
theorem c_lt8 {i : Nat} (h : i < 8) {α : Type} (A B : α) : (if nI i < 8 then A else B) = A := c_lt (n := 8) h (by omega)
end Q6
