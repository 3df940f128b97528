/-! A SUIT AS IT IS READ, the class alone -/
def ndT (T : Nat → Nat) : Nat → Nat
  | 0 => 0
  | k + 1 => ndT T k + T (26 + k)
def SP (T : Nat → Nat) (lim : Nat) : Prop :=
  (T 1 ≤ 8 ∧ T 2 ≤ 5 ∧ T 3 ≤ 6 ∧ T 4 ≤ 6 ∧ lim ≤ 999 ∧ T 5 = (if lim = 0 then 300 else lim) ∧ T 6 = T 3 + T 4 + ndT T (T 2)) ∧
  (∀ f, f < T 1 → 1 ≤ T (8 + f) ∧ T (8 + f) ≤ 9) ∧
  (∀ k, k < T 2 → T (16 + k) ≤ 999 ∧ T (21 + k) ≤ 999 ∧ T (26 + k) ≤ 4 ∧ (∀ i, i < T (26 + k) → T (31 + 4 * k + i) < T 6) ∧ T (51 + k) < 2 ^ T 1 ∧ T (56 + k) &&& T (51 + k) = T (56 + k) ∧ T (61 + k) < 2 ^ T 2) ∧
  (∀ k, T 2 ≤ k → k < 5 → T (51 + k) = 0 ∧ T (56 + k) = 0 ∧ T (61 + k) = 0) ∧
  (∀ p, p < T 4 → T (66 + p) < T 2 ∧ T (72 + p) < T 6) ∧ (∀ k, k < T 3 → T (78 + k) < T 6) ∧
  (∀ e, e < T 6 → wfE (cT T) (T (84 + e)) (T (117 + e)) ∧ T (117 + e) ≤ T 7) ∧
  (∀ s, s < T 7 → cT T s < 100 → cT T s < T 1) ∧ ∃ w, w < 2 ^ T 1 ∧ may T w = true
/-- what a slot of the class holds -/
def sl (I : Nat → Nat → Int32) (la : Nat) (T : Nat → Nat) (q : Nat) : Prop := ∃ a b, I (la + 8) q = nI a ∧ I (la + 9) q = nI b ∧ a ≤ b ∧ b ≤ T 7 ∧ ∀ s, s < b - a → hok (cT T (a + s)) (hAt (cT T) a s) = true
def SDr (I : Nat → Nat → Int32) (L : Nat → Nat → Int64) (la s : Nat) (T : Nat → Nat) (lim : Nat) : Prop :=
  (I la 0 = nI (T 0) ∧ I la 3 = nI (T 3) ∧ I la 4 = nI (T 4) ∧ I la 5 = nI lim ∧ Rw (L (la + 12)) (may T)) ∧
  (∀ f, f < T 1 → I (la + 1) f = nI (T (8 + f))) ∧
  (∀ k, k < T 2 → I (la + 3) k = nI (T (26 + k)) ∧ I (la + 6) k = nI (fst0 T k) ∧ ∀ i, i < T (26 + k) → I (la + 8) (4 * k + i) = nI (T (84 + T (31 + 4 * k + i))) ∧ I (la + 9) (4 * k + i) = nI (T (117 + T (31 + 4 * k + i)))) ∧
  (∀ k, k < 5 → I (la + 5) k = nI (T (61 + k))) ∧
  (∀ p, p < T 4 → I (la + 4) p = nI (T (66 + p)) ∧ I (la + 8) (20 + p) = nI (T (84 + T (72 + p))) ∧ I (la + 9) (20 + p) = nI (T (117 + T (72 + p)))) ∧
  (∀ q, q < 26 → sl I la T q) ∧
  ((∀ j, j < 9 → j ≠ 2 → I s j = 0) ∧ I s 2 = nI (T 2)) ∧
  ∀ k, k < T 2 → I (s + 1) k = nI k ∧ I (s + 2) k = nI (T (16 + k)) ∧ I (s + 3) k = nI (T (21 + k)) ∧ I (s + 4) k = 0 ∧ I (s + 5) k = nI (T (51 + k)) ∧ I (s + 6) k = nI (T (56 + k))
def SV (I : Nat → Nat → Int32) (L : Nat → Nat → Int64) (X : Nat → Nat) (n m la s : Nat) (T : Nat → Nat) (lim i : Nat) (R : List (Nat × Nat)) : Prop :=
  PE I X n m la 0 (T 1) (T 2) T i R ∧ SP T lim ∧ SDr I L la s T lim ∧ SOk L
/-- facts, counts, nevers, pleas, the limit told; what counts say, which are the same; which worlds may be -/
abbrev Vt : Type := Nat × Nat × Nat × Nat × Nat × (Nat → Nat) × (Nat → Nat) × (Nat → Bool)
def VW (T : Nat → Nat) (lim : Nat) (v : Vt) : Prop := T 1 = v.1 ∧ T 2 = v.2.1 ∧ T 3 = v.2.2.1 ∧ T 4 = v.2.2.2.1 ∧ lim = v.2.2.2.2.1 ∧ (∀ k, k < 5 → T (51 + k) = v.2.2.2.2.2.1 k) ∧ (∀ k, k < 5 → T (61 + k) = v.2.2.2.2.2.2.1 k) ∧ ∀ w, may T w = v.2.2.2.2.2.2.2 w
/-- what the class leaves as it is while it reads a suit -/
def FS (la s : Nat) (I : Nat → Nat → Int32) (L : Nat → Nat → Int64) (I' : Nat → Nat → Int32) (L' : Nat → Nat → Int64) : Prop :=
  (∀ x, x ≠ 282 → x ≠ 108 → (x < la ∨ la + 78 ≤ x) → (x < s ∨ s + 7 ≤ x) → I' x = I x) ∧ ∀ x, (x < 109 ∨ 111 < x) → x ≠ 284 → x ≠ la + 12 → L' x = L x
/-- a line is read -/
def LQ (σ : Sg) (I : Nat → Nat → Int32) (L : Nat → Nat → Int64) (X : Nat → Nat) (n m la s : Nat) (T : Nat → Nat) (i' : Nat) (R' : List (Nat × Nat)) (v' : Vt) (cls : Option (Int32 × Hp)) : Prop :=
  ∃ I' L' T' lim', cls = some (1, hk σ I' L') ∧ SV I' L' X n m la s T' lim' i' R' ∧ VW T' lim' v' ∧ T' 0 = T 0 ∧ FS la s I L I' L'
theorem runV_cg {q q' : VP} {cd cd' : Nat → Nat} {a m tb : Nat} (hc : ∀ s, s < m → cd' (a + s) = cd (a + s)) (hq : ∀ f, f < tb → q f = q' f) (hb : ∀ s, s < m → cd (a + s) < 100 → cd (a + s) < tb) : ∀ n, n ≤ m → runV q cd a n = runV q' cd' a n := by
  intro n
  induction n with
  | zero => intro _; rfl
  | succ n ih =>
    intro hn
    simp only [runV]
    rw [ih (by omega), hc n (by omega)]
    unfold stp
    by_cases k0 : cd (a + n) / 100 = 0
    · rw [if_pos k0, if_pos k0, hq _ (by have := hb n (by omega) (by omega); omega)]
    · rw [if_neg k0, if_neg k0]
theorem hAt_cg {cd cd' : Nat → Nat} {a m : Nat} (hc : ∀ s, s < m → cd' (a + s) = cd (a + s)) : ∀ n, n ≤ m → hAt cd' a n = hAt cd a n := by
  intro n
  induction n with
  | zero => intro _; rfl
  | succ n ih =>
    intro hn
    simp only [hAt]
    rw [ih (by omega), hc n (by omega)]
/-- code that has grown -/
def GR (T T' : Nat → Nat) : Prop := T 7 ≤ T' 7 ∧ (∀ j, 150 ≤ j → j < 150 + T 7 → T' j = T j) ∧ ∀ e, e < T 6 → T' (84 + e) = T (84 + e) ∧ T' (117 + e) = T (117 + e)
section Suit
variable {σ : Sg} {I I' I1 I2 I3 Ja : Nat → Nat → Int32} {L L' L1 L2 : Nat → Nat → Int64} {X : Nat → Nat} {n m i la off t1 t2 dp h0 N kk lim s : Nat} {T T' : Nat → Nat} {R R' : List (Nat × Nat)} {v : Vt}
theorem GR.ct (g : GR T T') {j : Nat} (h : j < T 7) : cT T' j = cT T j := g.2.1 (150 + j) (by omega) (by omega)
theorem GR.evc (g : GR T T') {e : Nat} (he : e < T 6) (h7 : T (117 + e) ≤ T 7) : ev T' e = ev T e := by
  funext w
  unfold ev evP
  rw [(g.2.2 e he).1, (g.2.2 e he).2, ← runV_cg (q := qw w) (q' := qw w) (cd := cT T) (cd' := cT T') (a := T (84 + e)) (m := T (117 + e) - T (84 + e)) (tb := 100) (fun s hs => g.ct (by omega)) (fun f _ => rfl) (fun s _ h => h) _ (Nat.le_refl _)]
theorem GR.hokc (g : GR T T') {a b : Nat} (hb : b ≤ T 7) (h : ∀ s, s < b - a → hok (cT T (a + s)) (hAt (cT T) a s) = true) : ∀ s, s < b - a → hok (cT T' (a + s)) (hAt (cT T') a s) = true := fun s hs => by
  rw [g.ct (by omega), hAt_cg (cd := cT T) (m := b - a) (fun s hs => g.ct (by omega)) s (by omega)]
  exact h s hs
theorem GR.wfc (g : GR T T') {a b : Nat} (hb : b ≤ T 7) (h : wfE (cT T) a b) : wfE (cT T') a b :=
  ⟨h.1, g.hokc hb h.2.1, by rw [hAt_cg (cd := cT T) (m := b - a) (fun s hs => g.ct (by omega)) _ (Nat.le_refl _)]; exact h.2.2⟩
theorem GR.slc (g : GR T T') {q : Nat} (h : sl I la T q) (e8 : I' (la + 8) q = I (la + 8) q) (e9 : I' (la + 9) q = I (la + 9) q) : sl I' la T' q := by
  obtain ⟨a, b, h1, h2, h3, h4, h5⟩ := h
  exact ⟨a, b, by rw [e8, h1], by rw [e9, h2], h3, Nat.le_trans h4 g.1, g.hokc h4 h5⟩
theorem SP.ew (h : SP T lim) {e : Nat} (he : e < T 6) : wfE (cT T) (T (84 + e)) (T (117 + e)) ∧ T (117 + e) ≤ T 7 := h.2.2.2.2.2.2.1 e he
theorem GR.mayc (g : GR T T') (h : SP T lim) (h3 : T' 3 = T 3) (h78 : ∀ k, k < T 3 → T' (78 + k) = T (78 + k)) : may T' = may T := by
  funext w
  unfold may
  rw [h3]
  exact allB_congr fun k hk' => by
    have h6 := h.2.2.2.2.2.1 k hk'
    rw [h78 k hk', g.evc h6 (h.ew h6).2]
theorem fst0_cg (h2 : T' 2 = T 2) (h : ∀ k, k < T 2 → T' (61 + k) = T (61 + k)) : fst0 T' = fst0 T := by
  have : smB T' = smB T := by
    funext a b
    unfold smB
    rw [h2]
    by_cases ha : a < T 2
    · by_cases hb : b < T 2
      · rw [h a ha, h b hb]
      · rw [decide_eq_false hb]; simp
    · rw [decide_eq_false ha]; simp
  unfold fst0
  rw [this]
theorem ndT_cg : ∀ {n : Nat}, (∀ k, k < n → T' (26 + k) = T (26 + k)) → ndT T' n = ndT T n
  | 0, _ => rfl
  | n + 1, h => by
    show ndT T' n + T' (26 + n) = ndT T n + T (26 + n)
    rw [ndT_cg fun k hk' => h k (by omega), h n (by omega)]
theorem ndT_le : ∀ {n : Nat}, (∀ k, k < n → T (26 + k) ≤ 4) → ndT T n ≤ 4 * n
  | 0, _ => Nat.le_refl _
  | n + 1, h => by
    have := ndT_le (n := n) fun k hk' => h k (by omega)
    have := h n (by omega)
    show ndT T n + T (26 + n) ≤ _
    omega
theorem SP.t6 (h : SP T lim) : T 6 ≤ 12 + 4 * T 2 := by
  have := ndT_le (T := T) (n := T 2) fun k hk' => (h.2.2.1 k hk').2.2.1
  have := h.1
  omega
theorem FS.rf : FS la s I L I L := ⟨fun _ _ _ _ _ => rfl, fun _ _ _ _ => rfl⟩
theorem FS.tr (h : FS la s I L I1 L1) (g : FS la s I1 L1 I2 L2) : FS la s I L I2 L2 := ⟨fun x a b c d => (g.1 x a b c d).trans (h.1 x a b c d), fun x a b c => (g.2 x a b c).trans (h.2 x a b c)⟩
theorem PCk.row (h : PCk I X n m i) {x : Nat} (r : Nat → Int32) (hx : 107 < x) (h2 : x ≠ 282) : PCk (rowUp I x r) X n m i :=
  ⟨⟨h.1.1, by rw [rowUp_ne _ _ (by omega)]; exact h.1.2⟩, h.2.1, ⟨by rw [rowUp_ne _ _ (by omega)]; exact h.2.2.1.1, fun j hj => by rw [rowUp_ne _ _ (by omega), rowUp_ne _ _ (by omega), rowUp_ne _ _ (by omega)]; exact h.2.2.1.2 j hj⟩, h.2.2.2.1, h.2.2.2.2.1, by rw [rowUp_ne _ _ (by omega)]; exact h.2.2.2.2.2.1, h.2.2.2.2.2.2⟩
theorem CN.fld (h : CN I la t1 t2) (hla : isLa la) {k : Nat} (v : Int32) (h1 : k ≠ 1) (h2 : k ≠ 2) : CN (rowUp I la (updA (I la) k v)) la t1 t2 := by
  refine ⟨h.1, h.2.1, by rw [rowUp_same, updA_ne _ _ (by omega)]; exact h.2.2.1, by rw [rowUp_same, updA_ne _ _ (by omega)]; exact h.2.2.2.1, ?_, ?_⟩
  · rw [rowUp_ne _ _ (by omega)]; exact h.2.2.2.2.1
  · rw [rowUp_ne _ _ (by omega)]; exact h.2.2.2.2.2
theorem CK.fld (h : CK I la off T) {k : Nat} (v : Int32) (h13 : k ≠ 13) : CK (rowUp I la (updA (I la) k v)) la off T :=
  ⟨by rw [rowUp_same, updA_ne _ _ (by omega)]; exact h.1, by rw [rowUp_ne _ _ (by omega)]; exact h.2⟩
theorem la_gt (hla : isLa la) : 107 < la ∧ la < 282 := by rcases hla with rfl | rfl <;> omega
theorem sI_la (hla : isLa la) (k : Nat) (v : Int32) : sI 1 k la v (hk σ I L) = some (hk σ (rowUp I la (updA (I la) k v)) L) := by
  rw [sI_ok (by rw [hpS_hk, (la_sh hla (gN σ)).1]), setI_hk, hpI_hk']
theorem PE.irow (h : PE I X n m la off t1 t2 T i R) {x : Nat} (r : Nat → Int32) (h0 : 107 < x) (h1 : x ≠ 282) (h2 : x ≠ la) (h3 : x ≠ la + 2) (h4 : x ≠ la + 7) : PE (rowUp I x r) X n m la off t1 t2 T i R := by
  refine ⟨h.1.row r h0 h1, h.2.1, ?_, ?_, h.2.2.2.2⟩
  · have := h.2.2.1
    unfold CN at this ⊢
    rw [rowUp_ne _ _ (Ne.symm h2), rowUp_ne _ _ (Ne.symm h3)]
    exact this
  · have := h.2.2.2.1
    unfold CK at this ⊢
    rw [rowUp_ne _ _ (Ne.symm h2), rowUp_ne _ _ (Ne.symm h4)]
    exact this
theorem PE.fld (h : PE I X n m la off t1 t2 T i R) (hla : isLa la) {k : Nat} (v : Int32) (h1 : k ≠ 1) (h2 : k ≠ 2) (h13 : k ≠ 13) : PE (rowUp I la (updA (I la) k v)) X n m la off t1 t2 T i R :=
  ⟨h.1.row _ (la_gt hla).1 (by have := la_gt hla; omega), h.2.1, h.2.2.1.fld hla v h1 h2, h.2.2.2.1.fld v h13, h.2.2.2.2⟩
theorem PE.set (h : PE I X n m la off t1 t2 T i R) {k : Nat} (v : Nat) (h7 : k ≠ 7) (h150 : k < 150) : PE I X n m la off t1 t2 (updA T k v) i R := by
  refine ⟨h.1, h.2.1, h.2.2.1, ⟨by rw [updA_ne _ _ (by omega)]; exact h.2.2.2.1.1, fun j hj => ?_⟩, by rw [updA_ne _ _ (by omega)]; exact h.2.2.2.2⟩
  rw [updA_ne _ _ (by omega)] at hj
  have : cT (updA T k v) j = cT T j := updA_ne _ _ (by omega)
  rw [this]
  exact h.2.2.2.1.2 j hj
/-- the file's last token of a line -/
theorem PE.semi (h : PE I X n m la off t1 t2 T i ((59, 0) :: R')) (hla : isLa la) : ∃ I', (b2 (mX2_expect 282 (59 : Int32) (hk σ I L)) fun v25 h26 => (z01 v25).bind fun v => some (v, h26)) = some (1, hk σ I' L) ∧ PE I' X n m la off t1 t2 T (i + 1) R' ∧ CF2 I I' := by
  obtain ⟨I', e, c, ts, f, g⟩ := exp_ok (σ := σ) (L := L) h.1 h.2.1
  have e : mX2_expect 282 (59 : Int32) (hk σ I L) = some (1, hk σ I' L) := e
  exact ⟨I', by rw [e, b2s]; rfl, h.go hla c ts f, f⟩
theorem isLa_sh (hla : isLa la) : SH (gN σ) (la + 1) = (50, 8) ∧ SH (gN σ) (la + 2) = (50, 13) ∧ RF σ la 6 = la + 1 ∧ RF σ la 7 = la + 2 := by rcases hla with rfl | rfl <;> exact ⟨rfl, rfl, rfl, rfl⟩
end Suit
