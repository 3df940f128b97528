section MT2
variable {σ : Sg} {I : Nat → Nat → Int32} {L : Nat → Nat → Int64}
theorem misW_ok {T : Nat → Nat} (hT : rT I T) (hW : WT T) {k w : Nat} (hk' : k < T 2) (hw : w < 256) (ht : ∀ e, e < T 6 → mw (I 445) e w = ev T e w) : mX12_isWonTold 433 (nI k) (nI w) (hk σ I L) = some (bI (won T k w)) := by
  obtain ⟨⟨w0, w1, w2, w3, w4, w5, w6, w7⟩, _, wk, wp, _, _, _⟩ := hW
  obtain ⟨_, _, k4, ki, _⟩ := wk k hk'
  have g0 : gR 12 0 433 (hk σ I L) = some 434 := rfl
  have g25 : gR 12 25 433 (hk σ I L) = some 445 := rfl
  have hs : hpS (hk σ I L) 434 = (50, 640) := rfl
  have rd : ∀ i, i < 640 → ldI 434 (nI i) (hk σ I L) = some (nI (T i)) := fun i hi => by rw [ldI_ok hs hi (by omega), hpI_hk, hT i hi]
  have isI : ∀ e, e < T 6 → mX12_isIn 445 (nI e) (nI w) (hk σ I L) = some (bI (ev T e w)) := fun e he => by
    rw [isIn_ok (a := 445) (n := 256) rfl hw (by omega) (by omega), ht e he]
  have second : mX12_isWonTold_l49 433 (nI k) (nI w) 0 (hk σ I L) = some (bI (allB (fun p => !(decide (T (66 + p) = k) && ev T (T (72 + p)) w)) (T 4))) := by
    unfold mX12_isWonTold_l49
    have := lp_all (f := fun s : Int32 => mX12_isWonTold_l49f 433 (nI k) (nI w) (hk σ I L) s) (T 4) (fun i => nI i) (fun p => !(decide (T (66 + p) = k) && ev T (T (72 + p)) w)) (0 : Int32) 1 (fun i hi hp => ?_) (fun i hi hp => ?_) ?_
    · rw [show (0 : Int32) = nI 0 from rfl] at this ⊢
      rw [this]
      cases allB (fun p => !(decide (T (66 + p) = k) && ev T (T (72 + p)) w)) (T 4) <;> rfl
    · have h1 := wp i hi
      show mX12_isWonTold_l49f 433 (nI k) (nI w) (hk σ I L) (nI i) = _
      unfold mX12_isWonTold_l49f mX12_isWonTold_b94
      rw [g0, obind, L4, rd 4 (by omega), obind, c_lt hi (by omega), obind, L66, nI_add, rd _ (by omega), obind, c_eqd (by omega) (by omega)]
      by_cases ek : T (66 + i) = k
      · rw [if_pos ek, g25, obind, obind, L72, nI_add, rd _ (by omega), obind, isI _ h1.2, obind, c_b]
        rw [decide_eq_true ek] at hp
        cases he : ev T (T (72 + i)) w
        · rw [if_neg (by decide), nI_1]
        · rw [he] at hp; cases hp
      · rw [if_neg ek, nI_1]
    · have h1 := wp i hi
      show mX12_isWonTold_l49f 433 (nI k) (nI w) (hk σ I L) (nI i) = _
      unfold mX12_isWonTold_l49f mX12_isWonTold_b94
      rw [g0, obind, L4, rd 4 (by omega), obind, c_lt hi (by omega), obind, L66, nI_add, rd _ (by omega), obind, c_eqd (by omega) (by omega)]
      by_cases ek : T (66 + i) = k
      · rw [if_pos ek, g25, obind, obind, L72, nI_add, rd _ (by omega), obind, isI _ h1.2, obind, c_b]
        rw [decide_eq_true ek] at hp
        cases he : ev T (T (72 + i)) w
        · rw [he] at hp; cases hp
        · rw [if_pos rfl]; rfl
      · rw [decide_eq_false ek] at hp; cases hp
    · show mX12_isWonTold_l49f 433 (nI k) (nI w) (hk σ I L) (nI (T 4)) = _
      unfold mX12_isWonTold_l49f
      rw [g0, obind, L4, rd 4 (by omega), obind, c_nlt (Nat.le_refl _) (by omega)]; rfl
  unfold mX12_isWonTold
  rw [if_pos (show (hpS (hk σ I L) 433).1 = 13 from rfl)]
  unfold mX12_isWonTold_l2 won
  refine lp_up (f := fun s : Int32 => mX12_isWonTold_l2f 433 (nI k) (nI w) (hk σ I L) s) (T (26 + k)) (fun i s => s = nI i ∧ ∀ j, j < i → ev T (T (31 + 4 * k + j)) w = true) (fun o => o = some (bI (allB (fun i => ev T (T (31 + 4 * k + i)) w) (T (26 + k)) && allB (fun p => !(decide (T (66 + p) = k) && ev T (T (72 + p)) w)) (T 4)))) ?_ ?_ (i := 0) (s := nI 0) (Nat.zero_le _) ⟨rfl, fun j hj => absurd hj (Nat.not_lt_zero _)⟩
  · rintro i s hi ⟨rfl, hj⟩
    show (∃ t, mX12_isWonTold_l2f 433 (nI k) (nI w) (hk σ I L) (nI i) = some (.inl t) ∧ _) ∨ ∃ r, mX12_isWonTold_l2f 433 (nI k) (nI w) (hk σ I L) (nI i) = some (.inr r) ∧ _
    have h1 := ki i hi
    unfold mX12_isWonTold_l2f
    rw [g0, obind, L26, nI_add, rd _ (by omega), obind, c_lt hi (by omega), g25, obind, obind, L31, L4, pk_mul, nI_add, nI_add, rd _ (by omega), obind, isI _ h1, obind, c_b]
    cases he : ev T (T (31 + 4 * k + i)) w
    · refine Or.inr ⟨0, by rw [if_neg (by decide)]; rfl, ?_⟩
      have : allB (fun i => ev T (T (31 + 4 * k + i)) w) (T (26 + k)) = false := by
        cases hb : allB (fun i => ev T (T (31 + 4 * k + i)) w) (T (26 + k))
        · rfl
        · have := allB_iff.mp hb i hi; rw [he] at this; cases this
      rw [this]; rfl
    · refine Or.inl ⟨_, by rw [if_pos rfl, nI_1], rfl, fun j hj2 => ?_⟩
      by_cases ej : j = i
      · subst ej; exact he
      · exact hj j (by omega)
  · rintro s ⟨rfl, hj⟩
    show ∃ r, mX12_isWonTold_l2f 433 (nI k) (nI w) (hk σ I L) (nI (T (26 + k))) = some (.inr r) ∧ _
    unfold mX12_isWonTold_l2f
    rw [g0, obind, L26, nI_add, rd _ (by omega), obind, c_nlt (Nat.le_refl _) (by omega), second]
    refine ⟨_, rfl, ?_⟩
    rw [allB_iff.mpr hj, Bool.true_and]
/-- the tables' heap -/
def tHk (σ : Sg) (I : Nat → Nat → Int32) (L : Nat → Nat → Int64) (P c t q : Nat → Int32) : Hp := hk σ (rowUp (rowUp (rowUp (rowUp I 443 P) 444 c) 445 t) 446 q) L
/-- as far as worlds below w, of EXPRs below e there, of COUNTS below k -/
def tabS (T : Nat → Nat) (c t q : Nat → Int32) (w e k : Nat) (d : Bool) : Prop :=
  (∀ v, v < 256 → mw c 0 v = ((decide (v < w) || (d && decide (v = w))) && may T v)) ∧
  (∀ x, x < T 6 → ∀ v, v < 256 → mw t x v = ((decide (v < w) || decide (v = w ∧ x < e)) && ev T x v)) ∧
  (∀ x, x < T 2 → ∀ v, v < 256 → mw q x v = ((decide (v < w) || decide (v = w ∧ x < k)) && won T x v))
theorem tab_adds {P c t q : Nat → Int32} (k w : Nat) (b : Bool) (hw : w < 256) :
    (mX12_adds 444 0 (nI w) (bI b) (tHk σ I L P c t q) = some (tHk σ I L P (addR c 0 w b) t q)) ∧
    (k < 32 → mX12_adds 445 (nI k) (nI w) (bI b) (tHk σ I L P c t q) = some (tHk σ I L P c (addR t k w b) q)) ∧
    (k < 5 → mX12_adds 446 (nI k) (nI w) (bI b) (tHk σ I L P c t q) = some (tHk σ I L P c t (addR q k w b))) := by
  refine ⟨?_, fun hk' => ?_, fun hk' => ?_⟩
  · have := adds_ok (σ := σ) (I := rowUp (rowUp (rowUp (rowUp I 443 P) 444 c) 445 t) 446 q) (L := L) (a := 444) (n := 8) (k := 0) (w := w) b rfl hw (by omega) (by omega)
    unfold tHk
    rw [show (0 : Int32) = nI 0 from rfl, this]
    simp (disch := omega) only [rowUp_at, if_neg, if_pos, if_true, rowUp_sw, rowUp_two, Nat.add_zero]
  · have := adds_ok (σ := σ) (I := rowUp (rowUp (rowUp (rowUp I 443 P) 444 c) 445 t) 446 q) (L := L) (a := 445) (n := 256) (k := k) (w := w) b rfl hw (by omega) (by omega)
    unfold tHk
    rw [this]
    simp (disch := omega) only [rowUp_at, if_neg, if_pos, if_true, rowUp_sw, rowUp_two, Nat.add_zero]
  · have := adds_ok (σ := σ) (I := rowUp (rowUp (rowUp (rowUp I 443 P) 444 c) 445 t) 446 q) (L := L) (a := 446) (n := 40) (k := k) (w := w) b rfl hw (by omega) (by omega)
    unfold tHk
    rw [this]
    simp (disch := omega) only [rowUp_at, if_neg, if_pos, if_true, rowUp_sw, rowUp_two, Nat.add_zero]
theorem tHk_P {P P' c t q : Nat → Int32} : hk σ (rowUp (rowUp (rowUp (rowUp (rowUp I 443 P) 444 c) 445 t) 446 q) 443 P') L = tHk σ I L P' c t q := by
  unfold tHk
  simp (disch := omega) only [rowUp_sw, rowUp_two, Nat.add_zero]
theorem tab_won {T : Nat → Nat} (hT : rT I T) (hW : WT T) {w : Nat} (hw : w < 256) {P c t : Nat → Int32} : ∀ d k q, k + d = T 2 → tabS T c t q w (T 6) k true →
    ∃ q', mX12_laysTables_l102 433 (nI w) (nI k) (tHk σ I L P c t q) = some (.inl (nI (w + 1), tHk σ I L P c t q')) ∧ tabS T c t q' w (T 6) (T 2) true := by
  intro d
  have w2 : T 2 ≤ 5 := hW.1.2.2.1
  have l2 : ∀ q, ldI 434 2 (tHk σ I L P c t q) = some (nI (T 2)) := fun q => by
    have hs : hpS (tHk σ I L P c t q) 434 = (50, 640) := rfl
    rw [L2, ldI_ok hs (by omega) (by omega)]
    have : hpI (tHk σ I L P c t q) 434 2 = I 434 2 := rfl
    rw [this, hT 2 (by omega)]
  induction d with
  | zero =>
    intro k q hk' hS
    have : k = T 2 := by omega
    subst this
    refine ⟨q, ?_, hS⟩
    unfold mX12_laysTables_l102
    refine lp_inr ?_
    show mX12_laysTables_l102f 433 (nI w) (nI (T 2)) _ = _
    unfold mX12_laysTables_l102f
    rw [show gR 12 0 433 (tHk σ I L P c t q) = some 434 from rfl, obind, l2, obind, c_nlt (Nat.le_refl _) (by omega), nI_1]; rfl
  | succ d ih =>
    intro k q hk' hS
    have hstep : mX12_laysTables_l102f 433 (nI w) (nI k) (tHk σ I L P c t q) = some (.inl (nI (k + 1), tHk σ I L P c t (addR q k w (won T k w)))) := by
      unfold mX12_laysTables_l102f
      rw [show gR 12 0 433 (tHk σ I L P c t q) = some 434 from rfl, obind, l2, obind, c_lt (by omega) (by omega), show gR 12 26 433 (tHk σ I L P c t q) = some 446 from rfl, obind]
      have hw1 : mX12_isWonTold 433 (nI k) (nI w) (tHk σ I L P c t q) = some (bI (won T k w)) := by
        unfold tHk
        refine misW_ok (fun i hi => ?_) hW (by omega) hw (fun e he => ?_)
        · simp (disch := omega) only [rowUp_at, if_neg]; exact hT i hi
        · have := hS.2.1 e he w hw
          simp (disch := omega) only [rowUp_at, if_neg, if_pos, if_true]
          rw [this]; simp [he]
      rw [hw1, obind, (tab_adds k w (won T k w) hw).2.2 (by omega), obind, nI_1]
    obtain ⟨q', e, hS'⟩ := ih (k + 1) (addR q k w (won T k w)) (by omega) ⟨hS.1, hS.2.1, fun x hx v hv => by
      rw [mw_add _ _ _ _ _ _ hv hw, hS.2.2 x hx v hv]
      by_cases h1 : x = k ∧ v = w
      · obtain ⟨rfl, rfl⟩ := h1; simp
      · by_cases h2 : v = w
        · subst h2
          have h3 : ¬ x = k := fun h => h1 ⟨h, rfl⟩
          have : decide (x < k + 1) = decide (x < k) := decide_eq_decide.mpr (by omega)
          simp [h3, this]
        · simp [h1, h2]⟩
    refine ⟨q', ?_, hS'⟩
    unfold mX12_laysTables_l102 at e ⊢
    rw [lp_inl (f := fun s : Int32 × Hp => mX12_laysTables_l102f 433 (nI w) s.1 s.2) (s := (nI k, tHk σ I L P c t q)) hstep]
    exact e
theorem tab_exp {T : Nat → Nat} (hT : rT I T) (hW : WT T) {w : Nat} (hw : w < 256) {c : Nat → Int32} : ∀ d x P t q, x + d = T 6 → tabS T c t q w x 0 true →
    ∃ P' t' q', mX12_laysTables_l55 433 (nI w) (nI x) (tHk σ I L P c t q) = some (.inl (nI (w + 1), tHk σ I L P' c t' q')) ∧ tabS T c t' q' w (T 6) (T 2) true := by
  intro d
  obtain ⟨⟨w0, w1, w2, w3, w4, w5, w6, w7⟩, _, _, _, _, we, _⟩ := hW
  have rd : ∀ P t q i, i < 640 → rowUp (rowUp (rowUp (rowUp I 443 P) 444 c) 445 t) 446 q 434 i = nI (T i) := fun P t q i hi => by
    simp (disch := omega) only [rowUp_at, if_neg]; exact hT i hi
  have l6 : ∀ P t q, ldI 434 6 (tHk σ I L P c t q) = some (nI (T 6)) := fun P t q => by
    have hs : hpS (tHk σ I L P c t q) 434 = (50, 640) := rfl
    rw [L6, ldI_ok hs (by omega) (by omega)]
    have : hpI (tHk σ I L P c t q) 434 6 = I 434 6 := rfl
    rw [this, hT 6 (by omega)]
  induction d with
  | zero =>
    intro x P t q hx hS
    have : x = T 6 := by omega
    subst this
    obtain ⟨q', e, hS'⟩ := tab_won (σ := σ) (L := L) (P := P) hT ⟨⟨w0, w1, w2, w3, w4, w5, w6, w7⟩, by assumption, by assumption, by assumption, by assumption, we, by assumption⟩ hw (T 2) 0 q (by omega) hS
    refine ⟨P, t, q', ?_, hS'⟩
    unfold mX12_laysTables_l55
    refine lp_xt ?_
    show mX12_laysTables_l55f 433 (nI w) (nI (T 6)) _ = _
    unfold mX12_laysTables_l55f
    rw [show gR 12 0 433 (tHk σ I L P c t q) = some 434 from rfl, obind, l6, obind, c_nlt (Nat.le_refl _) (by omega)]
    rw [show (0 : Int32) = nI 0 from rfl, e]
  | succ d ih =>
    intro x P t q hx hS
    obtain ⟨v1, v2⟩ := we x (by omega)
    obtain ⟨P1, e1⟩ := mholds_ok (σ := σ) (I := rowUp (rowUp (rowUp (rowUp I 443 P) 444 c) 445 t) 446 q) (L := L) 434 rfl (by decide) (cT T) x w (T (84 + x)) (T (117 + x)) (rd _ _ _ _ (by omega)) (rd _ _ _ _ (by omega)) (by omega) hw (by omega) (fun j h1 h2 => rd _ _ _ _ (by omega)) v1
    rw [tHk_P] at e1
    have hstep : mX12_laysTables_l55f 433 (nI w) (nI x) (tHk σ I L P c t q) = some (.inl (nI (x + 1), tHk σ I L P1 c (addR t x w (ev T x w)) q)) := by
      unfold mX12_laysTables_l55f mX12_laysTables_b91
      rw [show gR 12 0 433 (tHk σ I L P c t q) = some 434 from rfl, obind, l6, obind, c_lt (by omega) (by omega), show gR 12 25 433 (tHk σ I L P c t q) = some 445 from rfl, obind, obind]
      have e1' : mX12_holds 433 434 (nI x) (nI w) (tHk σ I L P c t q) = _ := e1
      rw [e1', b2s]
      show (if bI (ev T x w) = 1 then _ else _) = _
      have ha := fun b => (tab_adds (σ := σ) (I := I) (L := L) (P := P1) (c := c) (t := t) (q := q) x w b hw).2.1 (by omega)
      cases hev : ev T x w
      · rw [if_neg (show ¬ bI false = 1 by decide)]
        have := ha false
        rw [show bI false = 0 from rfl] at this
        rw [this, obind, nI_1]
      · rw [if_pos (show bI true = 1 from rfl)]
        have := ha true
        rw [show bI true = 1 from rfl] at this
        rw [this, obind, nI_1]
    obtain ⟨P', t', q', e, hS'⟩ := ih (x + 1) P1 (addR t x w (ev T x w)) q (by omega) ⟨hS.1, fun y hy v hv => by
      rw [mw_add _ _ _ _ _ _ hv hw, hS.2.1 y hy v hv]
      by_cases h1 : y = x ∧ v = w
      · obtain ⟨rfl, rfl⟩ := h1; simp
      · by_cases h2 : v = w
        · subst h2
          have h3 : ¬ y = x := fun h => h1 ⟨h, rfl⟩
          have : decide (y < x + 1) = decide (y < x) := decide_eq_decide.mpr (by omega)
          simp [h3, this]
        · simp [h1, h2], hS.2.2⟩
    refine ⟨P', t', q', ?_, hS'⟩
    unfold mX12_laysTables_l55 at e ⊢
    rw [lp_inl (f := fun s : Int32 × Hp => mX12_laysTables_l55f 433 (nI w) s.1 s.2) (s := (nI x, tHk σ I L P c t q)) hstep]
    exact e
/-- what the tables are when they are laid -/
def mTab (I : Nat → Nat → Int32) (T N : Nat → Nat) : Prop :=
  Rm (I 444) 0 (poss T) ∧ (∀ e, e < T 6 → Rm (I 445) e (fun w => decide (w < 2 ^ T 1) && ev T e w)) ∧ (∀ k, k < T 2 → Rm (I 446) k (fun w => decide (w < 2 ^ T 1) && won T k w)) ∧ Rm (I 447) 0 (lft T N)
theorem laysTables_ok {T N : Nat → Nat} (hT : rT I T) (hN : rN I N) (hW : WT T) (hb : ∀ f, f < 8 → N f ≤ 4 ∧ N (8 + f) ≤ 1) :
    ∃ P c t q r, mX12_laysTables 433 (hk σ I L) = some (hk σ (rowUp (rowUp (rowUp (rowUp (rowUp I 443 P) 444 c) 445 t) 446 q) 447 r) L) ∧ mTab (rowUp (rowUp (rowUp (rowUp (rowUp I 443 P) 444 c) 445 t) 446 q) 447 r) T N := by
  obtain ⟨⟨w0, w1, w2, w3, w4, w5, w6, w7⟩, wf, wk, wp, wn, we, wp2⟩ := id hW
  have h256 := ev_lt w1
  have start : mX12_laysTables 433 (hk σ I L) = mX12_laysTables_l23 433 0 (tHk σ I L (I 443) (fun k => if k < 8 then 0 else I 444 k) (fun k => if k < 256 then 0 else I 445 k) (fun k => if k < 40 then 0 else I 446 k)) := by
    unfold mX12_laysTables tHk
    rw [if_pos (show (hpS (hk σ I L) 433).1 = 13 from rfl), show gR 12 24 433 (hk σ I L) = some 444 from rfl, obind, mempties_ok (n := 8) rfl (by omega), obind, show ∀ I, gR 12 25 433 (hk σ I L) = some 445 from fun _ => rfl, obind, mempties_ok (n := 256) rfl (by omega), obind, show ∀ I, gR 12 26 433 (hk σ I L) = some 446 from fun _ => rfl, obind, mempties_ok (n := 40) rfl (by omega), obind, rowUp_id]
    simp (disch := omega) only [rowUp_at, if_neg]
  rw [start]
  unfold mX12_laysTables_l23
  have key := lp_inv (f := fun s : Int32 × Hp => mX12_laysTables_l23f 433 s.1 s.2) (2 ^ T 1) (fun i st => ∃ P c t q, st = (nI i, tHk σ I L P c t q) ∧ tabS T c t q i 0 0 false)
    (fun h' => ∃ P c t q r, h' = hk σ (rowUp (rowUp (rowUp (rowUp (rowUp I 443 P) 444 c) 445 t) 446 q) 447 r) L ∧ mTab (rowUp (rowUp (rowUp (rowUp (rowUp I 443 P) 444 c) 445 t) 446 q) 447 r) T N)
    (fun i st hi hQ => by
      obtain ⟨P, c, t, q, rfl, hS⟩ := hQ
      have l1 : ldI 434 1 (tHk σ I L P c t q) = some (nI (T 1)) := by
        have hs : hpS (tHk σ I L P c t q) 434 = (50, 640) := rfl
        rw [show (1 : Int32) = nI 1 from rfl, ldI_ok hs (by omega) (by omega)]
        have : hpI (tHk σ I L P c t q) 434 1 = I 434 1 := rfl
        rw [this, hT 1 (by omega)]
      obtain ⟨P1, e1⟩ := mayBe_ok (σ := σ) (I := rowUp (rowUp (rowUp (rowUp I 443 P) 444 c) 445 t) 446 q) (L := L) (R := T) 434 rfl (by decide) (fun j hj => by simp (disch := omega) only [rowUp_at, if_neg]; exact hT j hj) (w := i) (by omega) w3 (fun k hk' => by
        have h1 := wn k hk'
        obtain ⟨v1, v2⟩ := we _ h1
        exact ⟨by omega, v1, by omega⟩)
      rw [tHk_P] at e1
      obtain ⟨P', t', q', e, hS'⟩ := tab_exp (σ := σ) (L := L) hT hW (w := i) (by omega) (c := addR c 0 i (may T i)) (T 6) 0 P1 t q (by omega) ⟨fun v hv => by
        rw [mw_add _ _ _ _ _ _ hv (by omega), hS.1 v hv]
        by_cases h : v = i
        · subst h; simp
        · simp [h], fun x hx v hv => by rw [hS.2.1 x hx v hv], fun x hx v hv => by rw [hS.2.2 x hx v hv]⟩
      have fin : mX12_laysTables_l23f 433 (nI i) (tHk σ I L P c t q) = some (.inl (nI (i + 1), tHk σ I L P' (addR c 0 i (may T i)) t' q')) := by
        unfold mX12_laysTables_l23f
        rw [show gR 12 0 433 (tHk σ I L P c t q) = some 434 from rfl, obind, l1, obind, shl1 (by omega), c_lt hi (by omega), show gR 12 24 433 (tHk σ I L P c t q) = some 444 from rfl, obind, obind]
        have e1' : mX12_mayBe 433 434 (nI i) (tHk σ I L P c t q) = _ := e1
        rw [e1', b2s, (tab_adds 0 i (may T i) (by omega)).1, obind, show (0 : Int32) = nI 0 from rfl, e]
      refine ⟨_, fin, P', _, t', q', rfl, fun v hv => ?_, fun x hx v hv => ?_, fun x hx v hv => ?_⟩
      · rw [hS'.1 v hv]
        have : decide (v < i + 1) = (decide (v < i) || decide (v = i)) := by
          by_cases h1 : v < i <;> by_cases h2 : v = i <;> simp [h1, h2] <;> omega
        rw [this]; simp
      · rw [hS'.2.1 x hx v hv]
        have : decide (v < i + 1) = (decide (v < i) || decide (v = i)) := by
          by_cases h1 : v < i <;> by_cases h2 : v = i <;> simp [h1, h2] <;> omega
        rw [this]; simp [hx]
      · rw [hS'.2.2 x hx v hv]
        have : decide (v < i + 1) = (decide (v < i) || decide (v = i)) := by
          by_cases h1 : v < i <;> by_cases h2 : v = i <;> simp [h1, h2] <;> omega
        rw [this]; simp [hx])
    (fun st hQ => by
      obtain ⟨P, c, t, q, rfl, hS⟩ := hQ
      have l1 : ldI 434 1 (tHk σ I L P c t q) = some (nI (T 1)) := by
        have hs : hpS (tHk σ I L P c t q) 434 = (50, 640) := rfl
        rw [show (1 : Int32) = nI 1 from rfl, ldI_ok hs (by omega) (by omega)]
        have : hpI (tHk σ I L P c t q) 434 1 = I 434 1 := rfl
        rw [this, hT 1 (by omega)]
      have hc : Rm c 0 (poss T) := fun v hv => by rw [hS.1 v hv]; simp [poss]
      obtain ⟨r, e, hr⟩ := laysKnown_ok (σ := σ) (I := rowUp (rowUp (rowUp (rowUp I 443 P) 444 c) 445 t) 446 q) (L := L) (T := T) (N := N) (fun j hj => by simp (disch := omega) only [rowUp_at, if_neg]; exact hN j hj) hb (by simp (disch := omega) only [rowUp_at, if_neg, if_pos, if_true]; exact hc)
      refine ⟨_, ?_, P, c, t, q, r, rfl, ?_⟩
      · show mX12_laysTables_l23f 433 (nI (2 ^ T 1)) _ = _
        unfold mX12_laysTables_l23f
        rw [show gR 12 0 433 (tHk σ I L P c t q) = some 434 from rfl, obind, l1, obind, shl1 (by omega), c_nlt (Nat.le_refl _) (by omega)]
        have e' : mX12_laysKnown 433 (tHk σ I L P c t q) = _ := e
        rw [e']; rfl
      · unfold mTab
        simp (disch := omega) only [rowUp_at, if_neg, if_pos, if_true]
        refine ⟨hc, fun x hx v hv => ?_, fun x hx v hv => ?_, hr⟩
        · rw [hS.2.1 x hx v hv]; simp
        · rw [hS.2.2 x hx v hv]; simp)
    (s := (nI 0, tHk σ I L (I 443) (fun k => if k < 8 then 0 else I 444 k) (fun k => if k < 256 then 0 else I 445 k) (fun k => if k < 40 then 0 else I 446 k))) ⟨_, _, _, _, rfl, fun v hv => by
      show bt (if 8 * 0 + v / 32 < 8 then 0 else _) _ = _
      rw [if_pos (by omega), b_0]; simp, fun x hx v hv => by
      show bt (if 8 * x + v / 32 < 256 then 0 else _) _ = _
      rw [if_pos (by omega), b_0]; simp, fun x hx v hv => by
      show bt (if 8 * x + v / 32 < 40 then 0 else _) _ = _
      rw [if_pos (by omega), b_0]; simp⟩
  obtain ⟨h', e, P, c, t, q, r, rfl, hr⟩ := key
  exact ⟨P, c, t, q, r, e, hr⟩
end MT2
