/-! THE LAW's draws; what it makes, takes back, does at random -/
/-- what the law holds of itself: how many facts, how much is drawn -/
def LI (I : Nat → Nat → Int32) (F n : Nat) : Prop := I 99 3 = nI F ∧ I 99 2 = nI n
section E2
variable {σ σ' : Sg} {I I' I1 I2 : Nat → Nat → Int32} {L L' L1 L2 : Nat → Nat → Int64} {T N M : Nat → Nat} {a F n : Nat} {P : Nat → Nat → Nat} {K : Nat → Bool} {Q : Nat → Nat → Nat}
theorem nI_rem {a b : Nat} (ha : a < 2147483648) (hb0 : 0 < b) (hb : b < 2147483648) : nI a - nI a / nI b * nI b = nI (a % b) := by
  rw [nI_div ha hb0 hb, pk_mul, nI_sub (Nat.div_mul_le_self a b)]
  congr 1
  have := Nat.div_add_mod a b
  rw [Nat.mul_comm] at this; omega
theorem nI_31 (x : Int32) : ∃ y, y < 2147483648 ∧ x &&& (2147483647 : Int32) = nI y := by
  obtain ⟨m, hm, rfl⟩ := wb_of32 x
  refine ⟨m &&& 2147483647, ?_, by rw [show (2147483647 : Int32) = nI 2147483647 from rfl, nx_and]⟩
  have := @Nat.and_le_right m 2147483647
  omega
theorem LI.c (h : LI I F n) (f : I' 99 = I 99) : LI I' F n := by unfold LI; rw [f]; exact h
theorem FrA.l (h : FrA I L I' L') : I' 99 = I 99 := (h 99 (by omega)).1
theorem FrC.l (h : FrC I L I' L') : I' 99 = I 99 := (h 99 (by unfold scC; omega)).1
theorem at_some (x v : Int32) (h : Hp) : ∃ y, mL_at_b13 x v h = some y := by
  unfold mL_at_b13
  split
  · split
    · exact ⟨_, rfl⟩
    · exact ⟨_, rfl⟩
  · exact ⟨_, rfl⟩
/-- a drawn number -/
theorem l_draw (lf : LF σ) (li : LI I F n) (hn : n < 1000000000) {m : Nat} (hm0 : 0 < m) (hm : m < 2147483648) :
    ∃ j, j < m ∧ mL_draw 99 (nI m) (hk σ I L) = some (nI j, hk σ (rowUp I 99 (updA (I 99) 2 (nI (n + 1)))) L) := by
  obtain ⟨l1, l2, l3, len, hlen, l4⟩ := id lf
  have g1 : ∀ {ρ : Type} (f : Nat → Option ρ), (gR 15 1 99 (hk σ I L)).bind f = f 1 := fun f => by rw [gR_ok (s99 lf), obind, hpR_hk, l3]
  have g2 : gI 15 2 99 (hk σ I L) = some (nI n) := by rw [gI_ok (s99 lf), hpI_hk, li.2]
  have al : aLen 1 (hk σ I L) = some (nI len) := aLen_ok (by rw [hpS_hk, l4]) rfl
  have mx : mmax (1 : Int32) (nI len) = nI (max 1 len) := max_d (a := 1) (b := len) (by omega) (by omega)
  obtain ⟨M, hM⟩ : ∃ M, M = max 1 len := ⟨_, rfl⟩
  have hM1 : 0 < M := by omega
  have hM2 : M ≤ 260 := by omega
  have hat : ∃ y, mL_at 1 (nI (n % M)) (hk σ I L) = some y := by
    unfold mL_at
    rw [al, obind]
    have hk1 : n % M < M := Nat.mod_lt _ hM1
    by_cases q : n % M < len
    · rw [c_lt q (by omega), ldI_ro (n := len) (by rw [hpS_hk, l4]) q (by omega), obind]
      exact at_some _ _ _
    · rw [c_nlt (by omega) (by omega)]
      exact at_some _ _ _
  obtain ⟨y, hy⟩ := hat
  have fin : ∀ z, ∃ j, j < m ∧ mL_draw_b47 (nI m) z (hk σ (rowUp I 99 (updA (I 99) 2 (nI (n + 1)))) L) = some (nI j, hk σ (rowUp I 99 (updA (I 99) 2 (nI (n + 1)))) L) := fun z => by
    unfold mL_draw_b47 mL_draw_b59
    obtain ⟨u, hu, e⟩ := nI_31 ((z * (739982445 : Int32)) ^^^ (ushrI (z * (739982445 : Int32)) (13 : Int32)))
    rw [nzI (fun q => by have := (nI_z (show m < 2 ^ 32 by omega)).mp q; omega), e, nI_rem hu hm0 hm]
    exact ⟨_, Nat.mod_lt _ hm0, rfl⟩
  obtain ⟨j, hj, ej⟩ := fin ((y + (nI n * (668265263 : Int32))) ^^^ (ushrI (y + (nI n * (668265263 : Int32))) (15 : Int32)))
  refine ⟨j, hj, ?_⟩
  unfold mL_draw
  rw [if_pos (s99 lf), g1, g2, obind, g1, al, obind, mx, ← hM, nzI (fun q => by have := (nI_z (show M < 2 ^ 32 by omega)).mp q; omega), nI_rem (by omega) hM1 (by omega), hy, obind, obind, obind, nI_1, sI_ok (s99 lf), obind, setI_hk, hpI_hk']
  exact ej
/-- the class is as it was, whatever the law draws -/
theorem CB.row (h : CB σ I L T N a P K Q) {x : Nat} (r : Nat → Int32) (hx : x < 100 ∨ 433 ≤ x) : CB σ (rowUp I x r) L T N a P K Q :=
  h.ext rfl rfl (fun y a b => ⟨rowUp_ne _ _ (by omega), rfl⟩) rfl
theorem LI.dr (h : LI I F n) : LI (rowUp I 99 (updA (I 99) 2 (nI (n + 1)))) F (n + 1) := by
  unfold LI
  rw [rowUp_same, updA_ne _ _ (by omega), updA_same]
  exact ⟨h.1, rfl⟩
/-- all that holds between calls in a round -/
def RB (σ : Sg) (I : Nat → Nat → Int32) (L : Nat → Nat → Int64) (T N : Nat → Nat) (a : Nat) (P : Nat → Nat → Nat) (K : Nat → Bool) (Q : Nat → Nat → Nat) (n : Nat) : Prop := LF σ ∧ CB σ I L T N a P K Q ∧ LI I (T 1) n
/-- rows that are the law's alone -/
def FrL (I : Nat → Nat → Int32) (L : Nat → Nat → Int64) (I' : Nat → Nat → Int32) (L' : Nat → Nat → Int64) : Prop := ∀ x, (x ≠ 99 ∧ (x < 108 ∨ (112 ≤ x ∧ x < 268) ∨ 433 ≤ x)) → I' x = I x ∧ L' x = L x
theorem FrL.rf : FrL I L I L := fun _ _ => ⟨rfl, rfl⟩
theorem FrL.tr (h : FrL I L I1 L1) (g : FrL I1 L1 I2 L2) : FrL I L I2 L2 := fun x hx => ⟨by rw [(g x hx).1, (h x hx).1], by rw [(g x hx).2, (h x hx).2]⟩
theorem FrA.fL (h : FrA I L I' L') : FrL I L I' L' := fun x hx => h x (by omega)
theorem FrC.fL (h : FrC I L I' L') : FrL I L I' L' := h.fA.fL
theorem RB.q (h : RB σ I L T N a P K Q n) (f : FrC I L I1 L1) : RB σ I1 L1 T N a P K Q n := ⟨h.1, h.2.1.q f, h.2.2.c f.l⟩
theorem RB.draw (h : RB σ I L T N a P K Q n) (hn : n < 1000000000) {m : Nat} (hm0 : 0 < m) (hm : m < 2147483648) : ∃ j I1, j < m ∧ mL_draw 99 (nI m) (hk σ I L) = some (nI j, hk σ I1 L) ∧ RB σ I1 L T N a P K Q (n + 1) ∧ FrL I L I1 L := by
  obtain ⟨j, hj, e⟩ := l_draw (L := L) h.1 h.2.2 hn hm0 hm
  exact ⟨j, _, hj, e, ⟨h.1, h.2.1.row _ (by omega), h.2.2.dr⟩, fun x hx => ⟨rowUp_ne _ _ (by omega), rfl⟩⟩
theorem RB.dig (h : RB σ I L T N a P K Q n) : ∃ I1 L1, mL_digest 99 (hk σ I L) = some (dig T N, hk σ I1 L1) ∧ RB σ I1 L1 T N a P K Q n ∧ FrL I L I1 L1 := by
  obtain ⟨I1, L1, e, f⟩ := l_digest h.1 h.2.1
  exact ⟨I1, L1, e, h.q f, f.fL⟩
theorem RB.cnt (h : RB σ I L T N a P K Q n) {j : Nat} (hj : j < 8) : ∃ I1 L1, mX11_count 100 (nI j) (hk σ I L) = some (nI (ctV T N a j), hk σ I1 L1) ∧ RB σ I1 L1 T N a P K Q n ∧ FrL I L I1 L1 := by
  obtain ⟨I1, L1, e, f⟩ := c_count h.2.1 hj
  exact ⟨I1, L1, e, h.q f, f.fL⟩
theorem RB.b (h : RB σ I L T N a P K Q n) : T 1 ≤ 8 ∧ N 18 ≤ 8 ∧ a ≤ 16 ∧ N 16 ≤ 1 ∧ WT T ∧ EX T N := ⟨h.2.1.1.2.1.1.2.1, h.2.1.2.1.1.2.2.2.1.2, h.2.1.2.2.1.2.1.1, h.2.1.2.1.1.2.1, h.2.1.1.2.1, h.2.1.2.1⟩
/-- a call that may be an act, in a round -/
theorem RB.ax (h : RB σ I L T N a P K Q n) {cls : Option (Int32 × Hp)} {Bd : Prop} {Gd : (Nat → Nat) → Prop} (x : AX σ I L T N a P K Q cls Bd Gd) :
    ∃ v I1 L1, cls = some (v, hk σ I1 L1) ∧ FrL I L I1 L1 ∧ ((v < 0 ∧ RB σ I1 L1 T N a P K Q n ∧ Bd) ∨ (¬ v < 0 ∧ ∃ N', RB σ I1 L1 T N' (min (a + 1) 16) (psh a P N) K Q n ∧ Gd N')) := by
  obtain ⟨v, I1, L1, e, f, q⟩ := x
  refine ⟨v, I1, L1, e, f.fL, ?_⟩
  rcases q with ⟨q1, q2, q3⟩ | ⟨q1, N', q2, q3⟩
  · exact Or.inl ⟨q1, ⟨h.1, q2, h.2.2.c f.l⟩, q3⟩
  · exact Or.inr ⟨q1, N', ⟨h.1, q2, h.2.2.c f.l⟩, q3⟩
/-- a fact becomes known, or could not -/
theorem l_makes (h : RB σ I L T N a P K Q n) {f so : Nat} (hf : f < T 1) (hs : so < 2) (hk' : kn N f = false) :
    ∃ v I1 L1, mL_makes 99 (nI f) (nI so) (hk σ I L) = some (v, hk σ I1 L1) ∧ FrL I L I1 L1 ∧ ((v = 0 ∧ RB σ I1 L1 T N a P K Q n ∧ sme T N f (decide (so = 1)) = false) ∨ (v = 1 ∧ ∃ how, (how = 1 ∨ how = 4) ∧ sme T N f (decide (so = 1)) = true ∧ RB σ I1 L1 T (mkn N f how so) (min (a + 1) 16) (psh a P N) K Q n)) := by
  obtain ⟨w1, w18, w16, n16, hW, hE⟩ := h.b
  obtain ⟨I1, L1, e1, r1, f1⟩ := h.cnt (show 5 < 8 by omega)
  have e1 : mX11_count 100 (5 : Int32) (hk σ I L) = some (nI (N 16), hk σ I1 L1) := e1
  unfold mL_makes
  rw [if_pos (s99 h.1), gX h.1, e1, b2s, c_1 (by omega)]
  by_cases hc : N 16 = 1
  · rw [if_pos hc, gX r1.1, c_1 (by omega)]
    obtain ⟨v, I2, L2, e2, f2, q⟩ := r1.ax (c_find r1.2.1 (nI f) (decide (so = 1)))
    have fin : ∃ v I2 L2, mL_makes_b27 100 (nI f) (bI (decide (so = 1))) (hk σ I1 L1) = some (v, hk σ I2 L2) ∧ FrL I L I2 L2 ∧ ((v = 0 ∧ RB σ I2 L2 T N a P K Q n ∧ sme T N f (decide (so = 1)) = false) ∨ (v = 1 ∧ ∃ how, (how = 1 ∨ how = 4) ∧ sme T N f (decide (so = 1)) = true ∧ RB σ I2 L2 T (mkn N f how so) (min (a + 1) 16) (psh a P N) K Q n)) := by
      unfold mL_makes_b27
      rw [e2, b2s]
      rcases q with ⟨q1, q2, q3⟩ | ⟨q1, N', q2, q3⟩
      · refine ⟨0, I2, L2, by rw [if_pos q1], f1.tr f2, Or.inl ⟨rfl, q2, ?_⟩⟩
        cases z : sme T N f (decide (so = 1))
        · rfl
        · exact (q3 f rfl hf hc hk' z).elim
      · obtain ⟨_, _, z3, z4⟩ := q3 f rfl hf
        refine ⟨1, I2, L2, by rw [if_neg q1], f1.tr f2, Or.inr ⟨rfl, 4, Or.inr rfl, z3, ?_⟩⟩
        have : (if decide (so = 1) = true then 1 else 0) = so := by
          rcases (show so = 0 ∨ so = 1 by omega) with rfl | rfl <;> rfl
        rw [this] at z4
        rw [← z4]; exact q2
    rcases (show so = 0 ∨ so = 1 by omega) with rfl | rfl
    · rw [if_neg (by omega)]; exact fin
    · rw [if_pos rfl]; exact fin
  · rw [if_neg hc, gX r1.1]
    obtain ⟨v, I2, L2, e2, f2, q⟩ := r1.ax (c_answer r1.2.1 (nI f) (nI so))
    rw [e2, b2s]
    rcases q with ⟨q1, q2, q3⟩ | ⟨q1, N', q2, q3⟩
    · refine ⟨0, I2, L2, by rw [if_pos q1], f1.tr f2, Or.inl ⟨rfl, q2, ?_⟩⟩
      cases z : sme T N f (decide (so = 1))
      · rfl
      · exact (q3 f so rfl rfl hf hs (by omega) hk' z).elim
    · obtain ⟨_, _, z3, z4⟩ := q3 f so rfl rfl hf hs
      refine ⟨1, I2, L2, by rw [if_neg q1], f1.tr f2, Or.inr ⟨rfl, 1, Or.inl rfl, z3, ?_⟩⟩
      have : (if so = 1 then 1 else 0) = so := by
        rcases (show so = 0 ∨ so = 1 by omega) with rfl | rfl <;> rfl
      rw [this] at z4
      rw [← z4]; exact q2
theorem l_undo (h : RB σ I L T N a P K Q n) : ∃ v I1, mX11_undo 100 (hk σ I L) = some (v, hk σ I1 L) ∧ FrL I L I1 L ∧ ((a = 0 ∧ v = -1 ∧ I1 = I) ∨ (0 < a ∧ v = nI (a - 1) ∧ RB σ I1 L T (P (a - 1)) (a - 1) P K Q n)) := by
  obtain ⟨v, I1, e, f, q⟩ := c_undo h.2.1
  refine ⟨v, I1, e, f.fL, ?_⟩
  rcases q with q | ⟨q1, q2, q3⟩
  · exact Or.inl q
  · exact Or.inr ⟨q1, q2, h.1, q3, h.2.2.c f.l⟩
/-- as many undone as there are -/
theorem l_taken (m : Nat) (hm : m ≤ a) (h : RB σ I L T N a P K Q n) : ∃ I1, mL_taken 99 (nI m) (hk σ I L) = some (1, hk σ I1 L) ∧ FrL I L I1 L ∧ RB σ I1 L T (if m = 0 then N else P (a - m)) (a - m) P K Q n := by
  obtain ⟨w1, w18, w16, n16, hW, hE⟩ := h.b
  unfold mL_taken mL_taken_l2
  rw [if_pos (s99 h.1)]
  obtain ⟨o, e, I1, rfl, f1, r1⟩ := lp_inv (f := fun s : (Int32 × Hp) => mL_taken_l2f 99 (nI m) s.1 s.2) m (fun i st => ∃ I1, st = (nI i, hk σ I1 L) ∧ FrL I L I1 L ∧ RB σ I1 L T (if i = 0 then N else P (a - i)) (a - i) P K Q n)
    (fun o => ∃ I1, o = (1, hk σ I1 L) ∧ FrL I L I1 L ∧ RB σ I1 L T (if m = 0 then N else P (a - m)) (a - m) P K Q n)
    (fun i st hi hQ => by
      obtain ⟨I1, rfl, f1, r1⟩ := hQ
      obtain ⟨v, I2, e2, f2, q⟩ := l_undo r1
      rcases q with ⟨q, _⟩ | ⟨q1, q2, q3⟩
      · omega
      · refine ⟨(nI (i + 1), hk σ I2 L), ?_, I2, rfl, f1.tr f2, ?_⟩
        · show mL_taken_l2f 99 (nI m) (nI i) (hk σ I1 L) = _
          unfold mL_taken_l2f
          rw [c_lt hi (by omega), gX h.1, e2, b2s, q2, if_neg (nI_pos (by omega)), nI_1]
        · rw [if_neg (by omega), show a - (i + 1) = a - i - 1 by omega]; exact q3)
    (fun st hQ => by
      obtain ⟨I1, rfl, f1, r1⟩ := hQ
      refine ⟨(1, hk σ I1 L), ?_, I1, rfl, f1, r1⟩
      show mL_taken_l2f 99 (nI m) (nI m) (hk σ I1 L) = _
      unfold mL_taken_l2f
      rw [c_nlt (Nat.le_refl _) (by omega), xts]) (s := (nI 0, hk σ I L)) ⟨I, rfl, FrL.rf, by rw [if_pos rfl, Nat.sub_zero]; exact h⟩
  exact ⟨I1, e, f1, r1⟩
/-- one act is taken back -/
theorem psh_last (a : Nat) (ha : a ≤ 16) (P : Nat → Nat → Nat) (N : Nat → Nat) : psh a P N (min (a + 1) 16 - 1) = N := by
  unfold psh
  by_cases h6 : a < 16
  · rw [if_pos h6, if_pos (by omega)]
  · rw [if_neg h6, if_pos (by omega)]
theorem l_taken1 (h : RB σ I L T N (min (a + 1) 16) (psh a P M) K Q n) (ha : a ≤ 16) : ∃ I1, mL_taken 99 (nI 1) (hk σ I L) = some (1, hk σ I1 L) ∧ FrL I L I1 L ∧ RB σ I1 L T M (min a 15) (psh a P M) K Q n := by
  obtain ⟨I1, e, f, r⟩ := l_taken 1 (by omega) h
  rw [if_neg (by omega), psh_last a ha, show min (a + 1) 16 - 1 = min a 15 by omega] at r
  exact ⟨I1, e, f, r⟩
end E2
