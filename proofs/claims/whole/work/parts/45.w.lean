section Wg
variable {σ : Sg} {I I' : Nat → Nat → Int32} {L L' : Nat → Nat → Int64}
def sm (g : Nat → Nat) (p : Nat → Bool) : Nat → Nat
  | 0 => 0
  | n + 1 => sm g p n + (if p n = true then g n else 0)
theorem sm_le {g : Nat → Nat} {p : Nat → Bool} {m : Nat} : ∀ {n : Nat}, (∀ i, i < n → g i ≤ m) → sm g p n ≤ n * m
  | 0, _ => by show 0 ≤ _; omega
  | n + 1, h => by
    have ih := sm_le (g := g) (p := p) (n := n) fun i hi => h i (by omega)
    have := h n (by omega)
    show sm g p n + (if p n = true then g n else 0) ≤ _
    rw [Nat.succ_mul]
    split <;> omega
theorem sm_pos {g : Nat → Nat} {p : Nat → Bool} {n i : Nat} (hi : i < n) (hp : p i = true) (hg : 0 < g i) : 0 < sm g p n := by
  induction n with
  | zero => omega
  | succ n ih =>
    show 0 < sm g p n + (if p n = true then g n else 0)
    by_cases e : i = n
    · subst e; rw [if_pos hp]; omega
    · have := ih (by omega); omega
theorem wt_b {T : Nat → Nat} (hW : WT T) (w : Nat) : ∀ f, f ≤ T 1 → 1 ≤ wt T w f ∧ wt T w f ≤ 9 ^ f
  | 0, _ => ⟨Nat.le_refl _, Nat.le_refl _⟩
  | f + 1, h => by
    obtain ⟨h1, h2⟩ := wt_b hW w f (by omega)
    have := hW.2.1 f (by omega)
    show 1 ≤ wt T w f * (if w.testBit f = true then T (8 + f) else 10 - T (8 + f)) ∧ wt T w f * (if w.testBit f = true then T (8 + f) else 10 - T (8 + f)) ≤ 9 ^ f * 9
    have hb : 1 ≤ (if w.testBit f = true then T (8 + f) else 10 - T (8 + f)) ∧ (if w.testBit f = true then T (8 + f) else 10 - T (8 + f)) ≤ 9 := by split <;> omega
    exact ⟨Nat.mul_pos h1 hb.1, Nat.mul_le_mul h2 hb.2⟩
def wg (T : Nat → Nat) (w : Nat) : Nat := wt T w (T 1)
theorem wg_b {T : Nat → Nat} (hW : WT T) (w : Nat) : 1 ≤ wg T w ∧ wg T w ≤ 43046721 := by
  obtain ⟨h1, h2⟩ := wt_b hW w (T 1) (Nat.le_refl _)
  have w1 := hW.1.2.1
  exact ⟨h1, Nat.le_trans h2 (Nat.le_trans (Nat.pow_le_pow_right (n := 9) (by omega) w1) (by decide))⟩
theorem sm_b {T : Nat → Nat} (hW : WT T) (p : Nat → Bool) {n : Nat} (hn : n ≤ 256) : sm (wg T) p n ≤ 11019960576 := by
  have := sm_le (g := wg T) (p := p) (n := n) (m := 43046721) fun i _ => (wg_b hW i).2
  have h2 : n * 43046721 ≤ 256 * 43046721 := Nat.mul_le_mul_right _ hn
  omega
/-- Euclid's pairs -/
def eu (c r : Nat) : Nat → Nat × Nat
  | 0 => (c, r)
  | n + 1 => ((eu c r n).2, (eu c r n).1 % (eu c r n).2)
theorem eu_shift (c r : Nat) : ∀ n, eu c r (n + 1) = eu r (c % r) n
  | 0 => rfl
  | n + 1 => by
    show ((eu c r (n + 1)).2, (eu c r (n + 1)).1 % (eu c r (n + 1)).2) = _
    rw [eu_shift c r n]; rfl
/-- after how many it stands -/
theorem eu_end : ∀ (m c r : Nat), r < 2 ^ m → 0 < c → ∃ n, n ≤ 2 * m ∧ (eu c r n).2 = 0 ∧ 0 < (eu c r n).1 ∧ (∀ i, i < n → 0 < (eu c r i).2) ∧ ∀ i, i ≤ n → (eu c r i).1 ≤ max c r ∧ (eu c r i).2 ≤ max c r
  | 0, c, r, hr, hc => by
    have : r = 0 := by simpa using hr
    subst this
    exact ⟨0, Nat.le_refl _, rfl, hc, fun i hi => absurd hi (Nat.not_lt_zero _), fun i hi => by
      have : i = 0 := by omega
      subst this
      show c ≤ max c 0 ∧ 0 ≤ max c 0
      omega⟩
  | m + 1, c, r, hr, hc => by
    by_cases h0 : r = 0
    · subst h0
      exact ⟨0, Nat.zero_le _, rfl, hc, fun i hi => absurd hi (Nat.not_lt_zero _), fun i hi => by
        have : i = 0 := by omega
        subst this
        show c ≤ max c 0 ∧ 0 ≤ max c 0
        omega⟩
    · have h1 : c % r < r := Nat.mod_lt _ (by omega)
      by_cases hz : c % r = 0
      · refine ⟨1, by omega, hz, by show 0 < r; omega, fun i hi => ?_, fun i hi => ?_⟩
        · have : i = 0 := by omega
          subst this; show 0 < r; omega
        · rcases (show i = 0 ∨ i = 1 by omega) with rfl | rfl
          · show c ≤ max c r ∧ r ≤ max c r; omega
          · show r ≤ max c r ∧ c % r ≤ max c r; omega
      · have h2 : r % (c % r) < c % r := Nat.mod_lt _ (by omega)
        have h3 : r % (c % r) < 2 ^ m := by
          rw [Nat.pow_succ] at hr
          by_cases q : c % r < 2 ^ m
          · omega
          · have e : r % (c % r) = (r - c % r) % (c % r) := Nat.mod_eq_sub_mod (by omega)
            have := Nat.mod_le (r - c % r) (c % r)
            omega
        obtain ⟨n, g1, g2, g3, g4, g5⟩ := eu_end m (c % r) (r % (c % r)) h3 (by omega)
        have sh : ∀ i, eu c r (i + 2) = eu (c % r) (r % (c % r)) i := fun i => by
          rw [eu_shift c r (i + 1), eu_shift r (c % r) i]
        refine ⟨n + 2, by omega, by rw [sh]; exact g2, by rw [sh]; exact g3, fun i hi => ?_, fun i hi => ?_⟩
        · rcases (show i = 0 ∨ i = 1 ∨ ∃ j, i = j + 2 from by
            match i with
            | 0 => exact Or.inl rfl
            | 1 => exact Or.inr (Or.inl rfl)
            | j + 2 => exact Or.inr (Or.inr ⟨j, rfl⟩)) with rfl | rfl | ⟨j, rfl⟩
          · show 0 < r; omega
          · show 0 < c % r; omega
          · rw [sh]; exact g4 j (by omega)
        · rcases (show i = 0 ∨ i = 1 ∨ ∃ j, i = j + 2 from by
            match i with
            | 0 => exact Or.inl rfl
            | 1 => exact Or.inr (Or.inl rfl)
            | j + 2 => exact Or.inr (Or.inr ⟨j, rfl⟩)) with rfl | rfl | ⟨j, rfl⟩
          · show c ≤ max c r ∧ r ≤ max c r; omega
          · show r ≤ max c r ∧ c % r ≤ max c r; omega
          · rw [sh]
            have := g5 j (by omega)
            omega
theorem lN_0 {a : Nat} (ha : a < 2 ^ 62) : (lg_cmp (lN a) 0 = 0) = (a = 0) := by
  rw [lg_cmp0, show (0 : Int64) = lN 0 from rfl]
  exact propext (lN_eq' ha (by omega))
theorem nzL_n {ρ : Type} {a : Nat} (h0 : 0 < a) (ha : a < 2 ^ 62) (f : Int64 → Option ρ) : (nzL (lN a)).bind f = f (lN a) := by
  unfold nzL
  rw [if_neg (by rw [show (0 : Int64) = lN 0 from rfl, lN_eq' ha (by omega)]; omega), obind]
theorem lN_mod {a b : Nat} (ha : a < 2 ^ 62) (hb0 : 0 < b) (hb : b < 2 ^ 62) : lN a - lN a / lN b * lN b = lN (a % b) := by
  rw [lN_div ha hb0 hb, lN_mul, lN_sub (Nat.div_mul_le_self a b)]
  congr 1
  have := Nat.div_add_mod a b
  rw [Nat.mul_comm] at this; omega
/-- a part by the whole, in lowest terms: both ways -/
theorem low_ok {p w : Nat} (hp : p < 2 ^ 62) (hw0 : 0 < w) (hw : w < 2 ^ 62) : ∃ g, 0 < g ∧ (∀ x : Int32, mX11_inLowestTerms (lN p) (lN w) x = some (if x = 0 then lN (p / g) else lN (w / g))) ∧
    ∀ (I : Nat → Nat → Int32) (L : Nat → Nat → Int64), mX12_tellsBy 433 (lN p) (lN w) (hk σ I L) = some (hk σ I (rowUp L 433 (updA (updA (L 433) 36 (lN (p / g))) 37 (lN (w / g))))) := by
  obtain ⟨n, h1, h2, h3, h4, h5⟩ := eu_end 62 w p hp hw0
  have hb : ∀ i, i ≤ n → (eu w p i).1 < 2 ^ 62 ∧ (eu w p i).2 < 2 ^ 62 := fun i hi => by have := h5 i hi; omega
  refine ⟨(eu w p n).1, h3, fun x => ?_, fun I L => ?_⟩
  · unfold mX11_inLowestTerms mX11_inLowestTerms_l9
    refine lp_traj (f := fun s : Int64 × Int64 × Int32 => mX11_inLowestTerms_l9f (lN p) (lN w) x s.1 s.2.1 s.2.2) n (fun i => (lN (eu w p i).1, lN (eu w p i).2, nI i)) _ (fun i hi => ?_) ?_
    · show mX11_inLowestTerms_l9f (lN p) (lN w) x (lN (eu w p i).1) (lN (eu w p i).2) (nI i) = _
      have b := hb i (by omega)
      have b0 := h4 i hi
      unfold mX11_inLowestTerms_l9f
      rw [show (200 : Int32) = nI 200 from rfl, c_lt (show i < 200 by omega) (by omega), if_neg (by rw [lN_0 b.2]; omega), nzL_n b0 b.2, lN_mod b.1 b0 b.2, nI_1]; rfl
    · show mX11_inLowestTerms_l9f (lN p) (lN w) x (lN (eu w p n).1) (lN (eu w p n).2) (nI n) = _
      have b := hb n (Nat.le_refl _)
      unfold mX11_inLowestTerms_l9f mX11_inLowestTerms_b45 mX11_inLowestTerms_b73
      rw [show (200 : Int32) = nI 200 from rfl, c_lt (show n < 200 by omega) (by omega), if_pos (by rw [lN_0 b.2]; exact h2), if_neg (show ¬ lg_cmp (lN (eu w p n).1) 0 = 0 by rw [lN_0 b.1]; omega), nzL_n h3 b.1, nzL_n h3 b.1, lN_div hp h3 b.1, lN_div hw h3 b.1]
      split <;> rfl
  · unfold mX12_tellsBy mX12_tellsBy_l6
    rw [if_pos s433]
    refine lp_traj (f := fun s : Int64 × Int64 => mX12_tellsBy_l6f 433 (lN p) (lN w) (hk σ I L) s.1 s.2) n (fun i => (lN (eu w p i).1, lN (eu w p i).2)) _ (fun i hi => ?_) ?_
    · show mX12_tellsBy_l6f 433 (lN p) (lN w) (hk σ I L) (lN (eu w p i).1) (lN (eu w p i).2) = _
      have b := hb i (by omega)
      have b0 := h4 i hi
      unfold mX12_tellsBy_l6f
      rw [if_neg (by rw [lN_0 b.2]; omega), nzL_n b0 b.2, lN_mod b.1 b0 b.2]; rfl
    · show mX12_tellsBy_l6f 433 (lN p) (lN w) (hk σ I L) (lN (eu w p n).1) (lN (eu w p n).2) = _
      have b := hb n (Nat.le_refl _)
      unfold mX12_tellsBy_l6f
      rw [if_pos (by rw [lN_0 b.2]; exact h2), nzL_n h3 b.1, lN_div hp h3 b.1, sL_ok (by rfl), obind, setL_hk, nzL_n h3 b.1, lN_div hw h3 b.1, sL_ok (by rfl), obind, setL_hk, rowUp_two, hpL_hk'', rowUp_same, xts, hpL_hk'']
/-- the weights of a row of worlds -/
theorem weigh_ok {T N : Nat → Nat} (h : CR σ I L T N) {a p : Nat} {f : Nat → Bool} (hw : isW (hk σ I L) a p) (hf : Rw (L p) f) : mX1_weigh (gla σ) a (hk σ I L) = some (lN (sm (wg T) f 256)) := by
  have hW := h.2.1
  have hla := h.1.1
  have hwt := h.2.2.2.1.2.2.2.2.2.1
  unfold mX1_weigh mX1_weigh_l5
  rw [if_pos (show (hpS (hk σ I L) (gla σ)).1 = 2 by rw [show hpS (hk σ I L) (gla σ) = SH (gN σ) (gla σ) from rfl, SH_la0 hla])]
  refine lp_traj (f := fun s : Int64 × Int32 => mX1_weigh_l5f (gla σ) a (hk σ I L) s.1 s.2) 256 (fun i => (lN (sm (wg T) f i), nI i)) _ (fun i hi => ?_) ?_
  · show mX1_weigh_l5f (gla σ) a (hk σ I L) (lN (sm (wg T) f i)) (nI i) = _
    have b := wg_b hW i
    unfold mX1_weigh_l5f mX1_weigh_b35
    rw [show (256 : Int32) = nI 256 from rfl, c_lt hi (by omega), holds_ok hw (by rw [hpL_hk'']; exact hf) hi, obind, bI_if0, gR_la hla, obind, RF_la_16 σ hla, at_r (SH_la10 hla) (by omega) (by omega), obind, hwt i hi, show wt T i (T 1) = wg T i from rfl, nI_l (by omega), lN_add, nI_1]
    show _ = some (Sum.inl (lN (sm (wg T) f i + (if f i = true then wg T i else 0)), nI (i + 1)))
    cases f i <;> rfl
  · show mX1_weigh_l5f (gla σ) a (hk σ I L) (lN (sm (wg T) f 256)) (nI 256) = _
    unfold mX1_weigh_l5f
    rw [if_neg (by decide), xts]
theorem mweight_ok {T N : Nat → Nat} (h : MI I T N) {w : Nat} (hw : w < 256) : mX12_weight 433 (nI w) (hk σ I L) = some (lN (wg T w)) := by
  have hW := h.2.2.1
  have w1 := hW.1.2.1
  unfold mX12_weight mX12_weight_l5
  rw [if_pos s433]
  refine lp_traj (f := fun s : Int64 × Int32 => mX12_weight_l5f 433 (nI w) (hk σ I L) s.1 s.2) (T 1) (fun i => (lN (wt T w i), nI i)) _ (fun i hi => ?_) ?_
  · show mX12_weight_l5f 433 (nI w) (hk σ I L) (lN (wt T w i)) (nI i) = _
    have b := hW.2.1 i hi
    unfold mX12_weight_l5f mX12_weight_b54
    rw [g434, ldT1 h.1, obind, c_lt hi (by omega), mhas_nI (by omega) (by omega), obind, bI_if0, g434, show (8 : Int32) = nI 8 from rfl, nI_add, ldT h.1 (by omega), obind, g434, ldT h.1 (by omega), obind, show (10 : Int32) = nI 10 from rfl, nI_sub (by omega), nI_l (by omega), nI_l (by omega), lN_mul, lN_mul, nI_1]
    show _ = some (Sum.inl (lN (wt T w i * (if w.testBit i = true then T (8 + i) else 10 - T (8 + i))), nI (i + 1)))
    cases w.testBit i <;> rfl
  · show mX12_weight_l5f 433 (nI w) (hk σ I L) (lN (wt T w (T 1))) (nI (T 1)) = _
    unfold mX12_weight_l5f
    rw [g434, ldT1 h.1, obind, c_nlt (Nat.le_refl _) (by omega), xts]; rfl
/-- chance -/
theorem chW {T N : Nat → Nat} {k w : Nat} : (lft T N w && won T k w) = true → lft T N w = true := fun h => by rw [Bool.and_eq_true] at h; exact h.1
theorem all_pos {T N : Nat → Nat} (hW : WT T) (hN : WN T N) : 0 < sm (wg T) (lft T N) 256 := by
  obtain ⟨w, hw, hl⟩ := hN.2.2.2.2.2
  exact sm_pos hw hl (wg_b hW w).1
theorem q_chance {T N : Nat → Nat} (h : CR σ I L T N) (hm : MI I T N) (x y : Int32) :
    ∃ v L1 L2, mX11_chance 100 x y (hk σ I L) = some (v, hk σ I L1) ∧ mX12_chance 433 x y (hk σ I L1) = some (v, hk σ I L2) ∧ FrC I L I L1 ∧ FrM I L1 I L2 := by
  have hW := h.2.1
  have h18 := (h.2.2.1.bkH hW).1
  have hla := h.1.1
  unfold mX11_chance mX12_chance
  rw [if_pos s100, cisCount_ok h, obind, bI_if0]
  rcases ixn x (N 18) (by omega) with ⟨k, hk', rfl, hd⟩ | hd
  · rw [hd, if_neg nTF]
    rcases ixn y 2 (by omega) with ⟨j, hj, rfl, hdy⟩ | hdy
    · rw [if_neg (nI_pos (show j < 2 ^ 31 by omega)), if_neg (show ¬ (1 : Int32) < nI j from nI_nlt (a := 1) (b := j) (by omega) (by decide))]
      obtain ⟨r, e1, hr⟩ := remember_ok h
      have h2 : CR σ I (rowUp L 415 r) T N := h.upL (by omega)
      obtain ⟨w1, w2, w3⟩ := h2.wonR hk'
      have a0 := (h.2.2.1.2.2.2.2.1 k hk').1
      have wk2 := hW.1.2.2.1
      obtain ⟨r', e2, hr'⟩ := and_ok (wLeft (σ := σ) (I := I) (L := rowUp L 415 r)) w1 (by omega) (by rw [hpL_hk'', rowUp_same]; exact hr) (by rw [hpL_hk'']; exact w2)
      rw [setL_hk, rowUp_two] at e2
      have h3 : CR σ I (rowUp L 415 r') T N := h.upL (by omega)
      have b1 := sm_b hW (lft T N) (n := 256) (Nat.le_refl _)
      have b2 := sm_b hW (fun w => lft T N w && won T (it N k 0) w) (n := 256) (Nat.le_refl _)
      obtain ⟨g, hg, g1, g2⟩ := low_ok (σ := σ) (p := sm (wg T) (fun w => lft T N w && won T (it N k 0) w) 256) (w := sm (wg T) (lft T N) 256) (by omega) (all_pos hW h.2.2.1) (by omega)
      refine ⟨(if nI j = 0 then lN (sm (wg T) (fun w => lft T N w && won T (it N k 0) w) 256 / g) else lN (sm (wg T) (lft T N) 256 / g)).toInt32, rowUp L 415 r', rowUp (rowUp L 415 r') 433 (updA (updA ((rowUp L 415 r') 433) 36 (lN (sm (wg T) (fun w => lft T N w && won T (it N k 0) w) 256 / g))) 37 (lN (sm (wg T) (lft T N) 256 / g))), ?_, ?_, FrC.rf.upL _ (by unfold scC; omega), ⟨fun a h1 h2 => ⟨rfl, ?_⟩, fun _ _ _ => rfl, fun a h1 h2 => ?_⟩⟩
      · rw [e1, obind, gLa, gLeft, weigh_ok h2 (wLeft (σ := σ) (I := I) (L := rowUp L 415 r)) (by rw [rowUp_same]; exact hr), obind, gLeft, gLa, ckind_ok h2 hk', obind, w3, obind, e2, obind, gLa, gLeft, weigh_ok h3 (wLeft (σ := σ) (I := I) (L := rowUp L 415 r')) (by rw [rowUp_same]; exact hr'), obind, g1, obind]
      · rw [if_pos s433, misCount_ok hm.2.1 h18, obind, bI_if0, hd, if_neg nTF, in_1, obind, bI_if0, hdy, if_neg nTF]
        unfold mX12_chance_l27
        refine lp_traj (f := fun s : Int64 × Int64 × Int32 => mX12_chance_l27f 433 (nI k) (nI j) (hk σ I (rowUp L 415 r')) s.1 s.2.1 s.2.2) 256 (fun i => (lN (sm (wg T) (fun w => lft T N w && won T (it N k 0) w) i), lN (sm (wg T) (lft T N) i), nI i)) _ (fun i hi => ?_) ?_
        · show mX12_chance_l27f 433 (nI k) (nI j) (hk σ I (rowUp L 415 r')) (lN (sm (wg T) (fun w => lft T N w && won T (it N k 0) w) i)) (lN (sm (wg T) (lft T N) i)) (nI i) = some (Sum.inl (lN (sm (wg T) (fun w => lft T N w && won T (it N k 0) w) i + (if (lft T N i && won T (it N k 0) i) = true then wg T i else 0)), lN (sm (wg T) (lft T N) i + (if lft T N i = true then wg T i else 0)), nI (i + 1)))
          unfold mX12_chance_l27f mX12_chance_b78 mX12_chance_b76 mX12_chance_b78
          rw [show (256 : Int32) = nI 256 from rfl, c_lt hi (by omega), hm.left hi, obind, bI_if0]
          rcases Bool.eq_false_or_eq_true (lft T N i) with q | q
          · rw [q, if_neg nTF, mweight_ok hm hi, obind, hm.won hk' hi, obind, bI_if0, decide_eq_true (lft_lt q), Bool.true_and]
            rcases Bool.eq_false_or_eq_true (won T (it N k 0) i) with q2 | q2
            · rw [q2, if_neg nTF, obind, lN_add, lN_add, nI_1]; rfl
            · rw [q2, if_pos rfl, lN_add, show (0 : Int64) = lN 0 from rfl, lN_add, nI_1]; rfl
          · rw [q, if_pos rfl, nI_1]; rfl
        · show mX12_chance_l27f 433 (nI k) (nI j) (hk σ I (rowUp L 415 r')) (lN (sm (wg T) (fun w => lft T N w && won T (it N k 0) w) 256)) (lN (sm (wg T) (lft T N) 256)) (nI 256) = _
          unfold mX12_chance_l27f mX12_chance_b106
          rw [if_neg (by decide), g2, obind]
          rcases (show j = 0 ∨ j = 1 by omega) with rfl | rfl
          · rw [if_pos (show nI 0 = 0 from rfl), gL_ok (by rfl), obind, hpL_hk'', rowUp_same, updA_ne _ _ (by decide), updA_same, if_pos (show nI 0 = 0 from rfl), xts]
          · rw [if_neg (by decide), gL_ok (by rfl), obind, hpL_hk'', rowUp_same, updA_same, if_neg (by decide), xts]
      · rw [rowUp_at, if_neg h2]
      · rw [rowUp_same, updA_ne _ _ h2, updA_ne _ _ h1]
    · refine ⟨-1, L, L, ?_, ?_, FrC.rf, FrM.rf⟩
      · rcases ix_cases y with hy | ⟨j, hj, rfl⟩
        · rw [if_pos hy]
        · rw [nI_toInt hj] at hdy
          have := of_decide_eq_false hdy
          rw [if_neg (nI_pos hj), if_pos (show (1 : Int32) < nI j from nI_lt (show 1 < j by omega) hj)]
      · rw [if_pos s433, misCount_ok hm.2.1 h18, obind, bI_if0, hd, if_neg nTF, in_1, obind, bI_if0, hdy, if_pos rfl]
  · refine ⟨-1, L, L, ?_, ?_, FrC.rf, FrM.rf⟩
    · rw [hd, if_pos rfl]
    · rw [if_pos s433, misCount_ok hm.2.1 h18, obind, bI_if0, hd, if_pos rfl]
end Wg
