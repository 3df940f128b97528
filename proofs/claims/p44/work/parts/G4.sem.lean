/-! WHAT CODE MEANS, in each world -/
def rst (q : VP) (cd : Nat → Nat) (a : Nat) (s : Nat × VP) : Nat → Nat × VP
  | 0 => s
  | n + 1 => stp q (cd (a + n)) (rst q cd a s n)
def SM (cd : Nat → Nat) (a b h0 : Nat) (sem : Nat → Bool) : Prop := a ≤ b ∧ ∀ (w : Nat) (s : Nat × VP), s.1 = h0 → (rst (qw w) cd a s (b - a)).1 = h0 + 1 ∧ (rst (qw w) cd a s (b - a)).2 h0 = (sem w, !sem w) ∧ ∀ j, j < h0 → (rst (qw w) cd a s (b - a)).2 j = s.2 j
def SMn (cd : Nat → Nat) (a b h0 k : Nat) (p : Nat → Nat → Bool) : Prop := a ≤ b ∧ ∀ (w : Nat) (s : Nat × VP), s.1 = h0 → (rst (qw w) cd a s (b - a)).1 = h0 + k ∧ (∀ i, i < k → (rst (qw w) cd a s (b - a)).2 (h0 + i) = (p i w, !p i w)) ∧ ∀ j, j < h0 → (rst (qw w) cd a s (b - a)).2 j = s.2 j
section G4
variable {cd cd' : Nat → Nat} {a b c h0 k o : Nat} {s1 s2 : Nat → Bool} {p : Nat → Nat → Bool}
theorem rst_add (q : VP) (cd : Nat → Nat) (a : Nat) (s : Nat × VP) (n : Nat) : ∀ m, rst q cd a s (n + m) = rst q cd (a + n) (rst q cd a s n) m
  | 0 => rfl
  | m + 1 => by
    show stp q (cd (a + (n + m))) (rst q cd a s (n + m)) = stp q (cd (a + n + m)) (rst q cd (a + n) (rst q cd a s n) m)
    rw [rst_add q cd a s n m, Nat.add_assoc]
theorem rst_cg {q : VP} {s : Nat × VP} : ∀ n, (∀ i, i < n → cd' (a + i) = cd (a + i)) → rst q cd' a s n = rst q cd a s n
  | 0, _ => rfl
  | n + 1, h => by
    show stp q (cd' (a + n)) (rst q cd' a s n) = stp q (cd (a + n)) (rst q cd a s n)
    rw [rst_cg n (fun i hi => h i (by omega)), h n (by omega)]
theorem runV_rst (q : VP) (cd : Nat → Nat) (a : Nat) : ∀ n, runV q cd a n = rst q cd a (0, fun _ => (false, false)) n
  | 0 => rfl
  | n + 1 => by
    show stp q (cd (a + n)) (runV q cd a n) = stp q (cd (a + n)) (rst q cd a (0, fun _ => (false, false)) n)
    rw [runV_rst q cd a n]
theorem SM.cg (h : SM cd a b h0 s1) (e : ∀ i, a ≤ i → i < b → cd' i = cd i) : SM cd' a b h0 s1 := by
  refine ⟨h.1, fun w s hs => ?_⟩
  rw [rst_cg (cd := cd) (b - a) (fun i hi => e _ (by omega) (by omega))]
  exact h.2 w s hs
theorem SMn.cg (h : SMn cd a b h0 k p) (e : ∀ i, a ≤ i → i < b → cd' i = cd i) : SMn cd' a b h0 k p := by
  refine ⟨h.1, fun w s hs => ?_⟩
  rw [rst_cg (cd := cd) (b - a) (fun i hi => e _ (by omega) (by omega))]
  exact h.2 w s hs
theorem SM.sem (h : SM cd a b h0 s1) (e : ∀ w, s1 w = s2 w) : SM cd a b h0 s2 := by
  have : s1 = s2 := funext e
  rw [← this]; exact h
theorem SM.leaf {f : Nat} (e : cd a = f) (hf : f < 100) : SM cd a (a + 1) h0 (fun w => w.testBit f) := by
  refine ⟨by omega, fun w s hs => ?_⟩
  have r : rst (qw w) cd a s (a + 1 - a) = (s.1 + 1, updA s.2 s.1 (qw w f)) := by
    rw [Nat.add_sub_cancel_left]
    show stp (qw w) (cd (a + 0)) s = _
    rw [Nat.add_zero, e]
    unfold stp
    rw [if_pos (by omega), Nat.mod_eq_of_lt hf]
  rw [r, hs]
  exact ⟨rfl, updA_same _ _ _, fun j hj => updA_ne _ _ (by omega)⟩
theorem rst_last (q : VP) (s : Nat × VP) (hab : a ≤ b) : rst q cd a s (b + 1 - a) = stp q (cd b) (rst q cd a s (b - a)) := by
  rw [show b + 1 - a = (b - a) + 1 by omega]
  show stp q (cd (a + (b - a))) _ = _
  rw [show a + (b - a) = b by omega]
theorem SM.not (h : SM cd a b h0 s1) (e : cd b = 100) : SM cd a (b + 1) h0 (fun w => !s1 w) := by
  refine ⟨by have := h.1; omega, fun w s hs => ?_⟩
  obtain ⟨h1, h2, h3⟩ := h.2 w s hs
  rw [rst_last _ _ h.1, e]
  unfold stp
  rw [if_neg (by omega), if_pos (by omega), h1, Nat.add_sub_cancel, h2]
  refine ⟨rfl, ?_, fun j hj => ?_⟩
  · show updA _ h0 _ h0 = _
    rw [updA_same]
    show ((s1 w, !s1 w).2, (s1 w, !s1 w).1) = (!s1 w, !!s1 w)
    cases s1 w <;> rfl
  · show updA _ h0 _ j = _
    rw [updA_ne _ _ (by omega)]; exact h3 j hj
theorem rst_two (q : VP) (s : Nat × VP) (hab : a ≤ b) (hbc : b ≤ c) : rst q cd a s (c - a) = rst q cd b (rst q cd a s (b - a)) (c - b) := by
  have := rst_add q cd a s (b - a) (c - b)
  rw [show b - a + (c - b) = c - a by omega, show a + (b - a) = b by omega] at this
  exact this
theorem SM.and (h : SM cd a b h0 s1) (g : SM cd b c (h0 + 1) s2) (e : cd c = 200) : SM cd a (c + 1) h0 (fun w => s1 w && s2 w) := by
  have h1 := h.1
  have g1 := g.1
  refine ⟨by omega, fun w s hs => ?_⟩
  obtain ⟨k1, k2, k3⟩ := h.2 w s hs
  obtain ⟨l1, l2, l3⟩ := g.2 w _ k1
  rw [rst_last _ _ (by omega), e, rst_two _ _ h1 g1]
  unfold stp
  rw [if_neg (by omega), if_neg (by omega), if_neg (by omega), if_pos (by omega), l1, show h0 + 1 + 1 - 2 = h0 by omega, show h0 + 1 + 1 - 1 = h0 + 1 by omega, l2, l3 h0 (by omega), k2]
  refine ⟨rfl, ?_, fun j hj => ?_⟩
  · show updA _ h0 _ h0 = _
    rw [updA_same]
    show ((s1 w, !s1 w).1 && (s2 w, !s2 w).1, (s1 w, !s1 w).2 || (s2 w, !s2 w).2) = (s1 w && s2 w, !(s1 w && s2 w))
    cases s1 w <;> cases s2 w <;> rfl
  · show updA _ h0 _ j = _
    rw [updA_ne _ _ (by omega), l3 j (by omega)]; exact k3 j hj
theorem SM.or (h : SM cd a b h0 s1) (g : SM cd b c (h0 + 1) s2) (e : cd c = 300) : SM cd a (c + 1) h0 (fun w => s1 w || s2 w) := by
  have h1 := h.1
  have g1 := g.1
  refine ⟨by omega, fun w s hs => ?_⟩
  obtain ⟨k1, k2, k3⟩ := h.2 w s hs
  obtain ⟨l1, l2, l3⟩ := g.2 w _ k1
  rw [rst_last _ _ (by omega), e, rst_two _ _ h1 g1]
  unfold stp
  rw [if_neg (by omega), if_neg (by omega), if_neg (by omega), if_neg (by omega), l1, show h0 + 1 + 1 - 2 = h0 by omega, show h0 + 1 + 1 - 1 = h0 + 1 by omega, l2, l3 h0 (by omega), k2]
  refine ⟨rfl, ?_, fun j hj => ?_⟩
  · show updA _ h0 _ h0 = _
    rw [updA_same]
    show ((s1 w, !s1 w).1 || (s2 w, !s2 w).1, (s1 w, !s1 w).2 && (s2 w, !s2 w).2) = (s1 w || s2 w, !(s1 w || s2 w))
    cases s1 w <;> cases s2 w <;> rfl
  · show updA _ h0 _ j = _
    rw [updA_ne _ _ (by omega), l3 j (by omega)]; exact k3 j hj
theorem SMn.nil (a h0 : Nat) : SMn cd a a h0 0 p := ⟨Nat.le_refl _, fun w s hs => by
  rw [Nat.sub_self]
  exact ⟨hs, fun i hi => absurd hi (Nat.not_lt_zero _), fun _ _ => rfl⟩⟩
theorem SMn.snoc (h : SMn cd a b h0 k p) (g : SM cd b c (h0 + k) (p k)) : SMn cd a c h0 (k + 1) p := by
  have h1 := h.1
  have g1 := g.1
  refine ⟨by omega, fun w s hs => ?_⟩
  obtain ⟨k1, k2, k3⟩ := h.2 w s hs
  obtain ⟨l1, l2, l3⟩ := g.2 w _ k1
  rw [rst_two _ _ h1 g1]
  refine ⟨l1, fun i hi => ?_, fun j hj => by rw [l3 j (by omega)]; exact k3 j hj⟩
  by_cases q : i = k
  · rw [q]; exact l2
  · rw [l3 _ (by omega)]; exact k2 i (by omega)
theorem cnt_not (p : Nat → Bool) : ∀ n, cntB (fun i => !p i) n + cntB p n = n
  | 0 => rfl
  | n + 1 => by
    have := cnt_not p n
    show cntB (fun i => !p i) n + (if (!p n) = true then 1 else 0) + (cntB p n + (if p n = true then 1 else 0)) = n + 1
    cases p n <;> simp <;> omega
theorem SMn.fin (h : SMn cd a b h0 k p) (e : cd b = 400 + (10 * o + k)) (k1 : 1 ≤ k) (k6 : k ≤ 6) (o6 : o ≤ 6) : SM cd a (b + 1) h0 (fun w => decide (o ≤ cntB (fun i => p i w) k)) := by
  have h1 := h.1
  refine ⟨by omega, fun w s hs => ?_⟩
  obtain ⟨l1, l2, l3⟩ := h.2 w s hs
  rw [rst_last _ _ h1, e]
  unfold stp
  rw [if_neg (by omega), if_neg (by omega), if_pos (by omega), l1, show (400 + (10 * o + k)) % 10 = k by omega, show (400 + (10 * o + k)) / 10 % 10 = o by omega, show h0 + k - k = h0 by omega]
  refine ⟨rfl, ?_, fun j hj => ?_⟩
  · show updA _ h0 _ h0 = _
    rw [updA_same]
    have c1 : cntB (fun i => ((rst (qw w) cd a s (b - a)).2 (h0 + i)).1) k = cntB (fun i => p i w) k := cntB_congr fun i hi => by rw [l2 i hi]
    have c2 : cntB (fun i => ((rst (qw w) cd a s (b - a)).2 (h0 + i)).2) k = cntB (fun i => !p i w) k := cntB_congr fun i hi => by rw [l2 i hi]
    rw [c1, c2]
    have c3 := cnt_not (fun i => p i w) k
    refine Prod.ext rfl ?_
    show decide _ = !decide _
    rw [← decide_not]
    exact decide_eq_decide.mpr ⟨fun _ => by omega, fun _ => by omega⟩
  · show updA _ h0 _ j = _
    rw [updA_ne _ _ (by omega)]; exact l3 j hj
/-- of all of an EXPR -/
theorem SM.ev (h : SM cd a b 0 s1) (w : Nat) : (evP (qw w) cd a b).1 = s1 w := by
  unfold evP
  rw [runV_rst]
  obtain ⟨h1, h2, h3⟩ := h.2 w (0, fun _ => (false, false)) rfl
  rw [h2]
end G4
