/-! A TEXT AND ITS TOKENS -/
def Tz (s : List Nat) (R : List (Nat × Nat)) : Prop := ∀ (X : Nat → Nat) (n m p i : Nat), (∀ j, j < s.length → X (p + j) = s.getD j 0) → p + s.length = n → sk X n p = pz X n i → i ≤ m → pz X n m = n → (∀ j, j < m → pz X n j < n) → TS X n m i R
def alnum (c : Nat) : Bool := (decide (97 ≤ c) && decide (c ≤ 122)) || (decide (48 ≤ c) && decide (c ≤ 57))
def hdl (s : List Nat) : Nat := s.getD 0 0
/-- whatever comes behind it, if it begins with no letter, no digit -/
def Tp (s : List Nat) (R : List (Nat × Nat)) : Prop := ∀ s' R', alnum (hdl s') = false → Tz s' R' → Tz (s ++ s') (R ++ R')
/-- whatever comes behind it -/
def TpF (s : List Nat) (R : List (Nat × Nat)) : Prop := ∀ s' R', Tz s' R' → Tz (s ++ s') (R ++ R')
def wpk (w : List Nat) : Nat := pk5 (lts (fun j => w.getD j 0) 0 w.length)
section G7
variable {s s' t : List Nat} {R R' Q : List (Nat × Nat)} {X : Nat → Nat} {n m p i : Nat}
theorem Tz.nil : Tz [] [] := fun X n m p i _ hn hs hi hm hlt => by
  show i = m
  have hn : p + 0 = n := hn
  have e : pz X n i = n := by rw [← hs]; show rn (blk X) n p = n; rw [rn_off (Or.inl (by omega))]; omega
  by_cases q : i < m
  · have := hlt i q; omega
  · omega
theorem getD_tl {c : Nat} {s : List Nat} (j : Nat) : (c :: s).getD (j + 1) 0 = s.getD j 0 := rfl
theorem Tz.blank {c : Nat} (hc : c = 32 ∨ c = 10) (h : Tz s R) : Tz (c :: s) R := fun X n m p i hX hn hs hi hm hlt => by
  have hn : p + (s.length + 1) = n := hn
  have x0 : X p = c := by have := hX 0 (by rw [List.length_cons]; omega); exact this
  refine h X n m (p + 1) i (fun j hj => ?_) (by omega) ?_ hi hm hlt
  · have := hX (j + 1) (by rw [List.length_cons]; omega)
    rw [show p + 1 + j = p + (j + 1) by omega, this]; rfl
  · rw [← hs]
    exact (rn_on (by omega) (by unfold blk; rw [x0]; rcases hc with rfl | rfl <;> decide)).symm
theorem alnum_f {c : Nat} (h : alnum c = false) : (c < 97 ∨ 122 < c) ∧ (c < 48 ∨ 57 < c) := by
  unfold alnum at h
  rw [Bool.or_eq_false_iff, Bool.and_eq_false_iff, Bool.and_eq_false_iff] at h
  simp only [decide_eq_false_iff_not] at h
  omega
theorem mrk_no {c : Nat} (h : mrk c = true) : alnum c = false ∧ c ≠ 32 ∧ c ≠ 10 := by
  have : ∀ c, c < 256 → mrk c = true → alnum c = false ∧ c ≠ 32 ∧ c ≠ 10 := by decide +kernel
  by_cases q : c < 256
  · exact this c q h
  · unfold mrk at h
    simp only [Bool.or_eq_true, decide_eq_true_eq] at h
    omega
theorem bet_f {lo hi p : Nat} (h : X p < lo ∨ hi < X p) : bet X lo hi p = false := by
  unfold bet
  rcases h with h | h
  · rw [decide_eq_false (show ¬ lo ≤ X p by omega)]; rfl
  · rw [decide_eq_false (show ¬ X p ≤ hi by omega), Bool.and_false]
theorem Tz.mark {c : Nat} (hc : mrk c = true) (h : Tz s R) : Tz (c :: s) ((c, 0) :: R) := fun X n m p i hX hn hs hi hm hlt => by
  have hn : p + (s.length + 1) = n := hn
  have x0 : X p = c := by have := hX 0 (by rw [List.length_cons]; omega); exact this
  obtain ⟨a1, a2, a3⟩ := mrk_no hc
  obtain ⟨b1, b2⟩ := alnum_f a1
  have e : pz X n i = p := by
    rw [← hs]
    exact rn_off (Or.inr (by unfold blk; rw [x0, decide_eq_false a2, decide_eq_false a3]; rfl))
  have hpn : ¬ n ≤ p := by omega
  have f1 : ¬ bet X 97 122 p = true := by rw [bet_f (by rw [x0]; exact b1)]; exact Bool.false_ne_true
  have f2 : ¬ bet X 48 57 p = true := by rw [bet_f (by rw [x0]; exact b2)]; exact Bool.false_ne_true
  have him : i < m := by
    by_cases q : i < m
    · exact q
    · have : i = m := by omega
      rw [this, hm] at e; omega
  refine ⟨him, ?_, ?_, h X n m (p + 1) (i + 1) (fun j hj => ?_) (by omega) ?_ (by omega) hm hlt⟩
  · show ck X n (pz X n i) = c
    rw [e]; unfold ck
    rw [if_neg hpn, if_neg f1, if_neg f2, if_pos (by rw [x0]; exact hc), x0]
  · show cv X n (pz X n i) = 0
    rw [e]; unfold cv
    rw [if_neg hpn, if_neg f1, if_neg f2]
  · have := hX (j + 1) (by rw [List.length_cons]; omega)
    rw [show p + 1 + j = p + (j + 1) by omega, this]; rfl
  · show sk X n (p + 1) = sk X n (te X n (pz X n i))
    rw [e]; unfold te
    rw [if_neg hpn, if_neg f1, if_neg f2]
theorem rn_run {ok : Nat → Bool} (k : Nat) : ∀ {p : Nat}, p + k ≤ n → (∀ j, j < k → ok (p + j) = true) → (n ≤ p + k ∨ ok (p + k) = false) → rn ok n p = p + k := by
  induction k with
  | zero => intro p _ _ h3; rw [Nat.add_zero] at h3 ⊢; exact rn_off h3
  | succ k ih =>
    intro p h1 h2 h3
    have h20 : ok p = true := h2 0 (by omega)
    rw [rn_on (n := n) (by omega) h20, ih (by omega) (fun j hj => by rw [show p + 1 + j = p + (j + 1) by omega]; exact h2 (j + 1) (by omega)) (by rw [show p + 1 + k = p + (k + 1) by omega]; exact h3)]
    omega
theorem lts_cg {Y : Nat → Nat} {b c : Nat} : ∀ k, (∀ j, j < k → X (b + j) = Y (c + j)) → lts X b k = lts Y c k
  | 0, _ => rfl
  | k + 1, h => by
    show (X (b + k) - 96) :: lts X b k = (Y (c + k) - 96) :: lts Y c k
    rw [lts_cg k (fun j hj => h j (by omega)), h k (by omega)]
theorem dgs_cg {Y : Nat → Nat} {b c : Nat} : ∀ k, (∀ j, j < k → X (b + j) = Y (c + j)) → dgs X b k = dgs Y c k
  | 0, _ => rfl
  | k + 1, h => by
    show dgs X b k * 10 + (X (b + k) - 48) = dgs Y c k * 10 + (Y (c + k) - 48)
    rw [dgs_cg k (fun j hj => h j (by omega)), h k (by omega)]
theorem Tz.word {w : List Nat} (h1 : 1 ≤ w.length) (h6 : w.length ≤ 6) (hw : ∀ j, j < w.length → 97 ≤ w.getD j 0 ∧ w.getD j 0 ≤ 122) (hs' : alnum (hdl s) = false) (h : Tz s R) : Tz (w ++ s) ((wkF (wpk w) 11 2, wpk w) :: R) := fun X n m p i hX hn hs hi hm hlt => by
  rw [List.length_append] at hn hX
  have xw : ∀ j, j < w.length → X (p + j) = w.getD j 0 := fun j hj => by rw [hX j (by omega), getD_app, if_pos hj]
  have xs : ∀ j, j < s.length → X (p + w.length + j) = s.getD j 0 := fun j hj => by rw [Nat.add_assoc, hX (w.length + j) (by omega), getD_app, if_neg (by omega), Nat.add_sub_cancel_left]
  have bw : ∀ j, j < w.length → bet X 97 122 (p + j) = true := fun j hj => by
    have := hw j hj
    unfold bet
    rw [xw j hj, decide_eq_true this.1, decide_eq_true this.2]; rfl
  have b0 := bw 0 (by omega)
  rw [Nat.add_zero] at b0
  have x0 := xw 0 (by omega)
  rw [Nat.add_zero] at x0
  have w0 := hw 0 (by omega)
  have e : pz X n i = p := by
    rw [← hs]
    exact rn_off (Or.inr (by unfold blk; rw [x0, decide_eq_false (by omega), decide_eq_false (by omega)]; rfl))
  have hpn : ¬ n ≤ p := by omega
  have ew : we X n p = p + w.length := rn_run w.length (by omega) bw (by
    by_cases q : s.length = 0
    · left; omega
    · right
      obtain ⟨b1, b2⟩ := alnum_f hs'
      have := xs 0 (by omega)
      rw [Nat.add_zero] at this
      exact bet_f (by rw [this]; exact b1))
  have el : lts X p w.length = lts (fun j => w.getD j 0) 0 w.length := lts_cg w.length fun j hj => by rw [xw j hj, Nat.zero_add]
  have him : i < m := by
    by_cases q : i < m
    · exact q
    · have : i = m := by omega
      rw [this, hm] at e; omega
  refine ⟨him, ?_, ?_, h X n m (p + w.length) (i + 1) xs (by omega) ?_ (by omega) hm hlt⟩
  · show ck X n (pz X n i) = wkF (wpk w) 11 2
    rw [e]; unfold ck
    rw [if_neg hpn, if_pos b0, ew, Nat.add_sub_cancel_left, if_neg (by omega), el]; rfl
  · show cv X n (pz X n i) = wpk w
    rw [e]; unfold cv
    rw [if_neg hpn, if_pos b0, ew, Nat.add_sub_cancel_left, if_neg (by omega), el]; rfl
  · show sk X n (p + w.length) = sk X n (te X n (pz X n i))
    rw [e]; unfold te
    rw [if_neg hpn, if_pos b0, ew]
theorem Tz.num {w : List Nat} (h1 : 1 ≤ w.length) (h3 : w.length ≤ 3) (hw : ∀ j, j < w.length → 48 ≤ w.getD j 0 ∧ w.getD j 0 < 58) (hs' : alnum (hdl s) = false) (h : Tz s R) : Tz (w ++ s) ((3, dgs (fun j => w.getD j 0) 0 w.length) :: R) := fun X n m p i hX hn hs hi hm hlt => by
  rw [List.length_append] at hn hX
  have xw : ∀ j, j < w.length → X (p + j) = w.getD j 0 := fun j hj => by rw [hX j (by omega), getD_app, if_pos hj]
  have xs : ∀ j, j < s.length → X (p + w.length + j) = s.getD j 0 := fun j hj => by rw [Nat.add_assoc, hX (w.length + j) (by omega), getD_app, if_neg (by omega), Nat.add_sub_cancel_left]
  have bw : ∀ j, j < w.length → bet X 48 57 (p + j) = true := fun j hj => by
    have := hw j hj
    unfold bet
    rw [xw j hj, decide_eq_true this.1, decide_eq_true (show w.getD j 0 ≤ 57 by omega)]; rfl
  have b0 := bw 0 (by omega)
  rw [Nat.add_zero] at b0
  have x0 := xw 0 (by omega)
  rw [Nat.add_zero] at x0
  have w0 := hw 0 (by omega)
  have f1 : ¬ bet X 97 122 p = true := by rw [bet_f (by rw [x0]; omega)]; exact Bool.false_ne_true
  have e : pz X n i = p := by
    rw [← hs]
    exact rn_off (Or.inr (by unfold blk; rw [x0, decide_eq_false (by omega), decide_eq_false (by omega)]; rfl))
  have hpn : ¬ n ≤ p := by omega
  have ew : de X n p = p + w.length := rn_run w.length (by omega) bw (by
    by_cases q : s.length = 0
    · left; omega
    · right
      obtain ⟨b1, b2⟩ := alnum_f hs'
      have := xs 0 (by omega)
      rw [Nat.add_zero] at this
      exact bet_f (by rw [this]; exact b2))
  have el : dgs X p w.length = dgs (fun j => w.getD j 0) 0 w.length := dgs_cg w.length fun j hj => by rw [xw j hj, Nat.zero_add]
  have him : i < m := by
    by_cases q : i < m
    · exact q
    · have : i = m := by omega
      rw [this, hm] at e; omega
  refine ⟨him, ?_, ?_, h X n m (p + w.length) (i + 1) xs (by omega) ?_ (by omega) hm hlt⟩
  · show ck X n (pz X n i) = 3
    rw [e]; unfold ck
    rw [if_neg hpn, if_neg f1, if_pos b0, ew, Nat.add_sub_cancel_left, if_neg (by omega)]
  · show cv X n (pz X n i) = dgs (fun j => w.getD j 0) 0 w.length
    rw [e]; unfold cv
    rw [if_neg hpn, if_neg f1, if_pos b0, ew, Nat.add_sub_cancel_left, if_neg (by omega), el]
  · show sk X n (p + w.length) = sk X n (te X n (pz X n i))
    rw [e]; unfold te
    rw [if_neg hpn, if_neg f1, if_pos b0, ew]
/-! pieces -/
theorem hdl_app (h : 1 ≤ s.length) : hdl (s ++ s') = hdl s := by unfold hdl; rw [getD_app, if_pos (by omega)]
theorem TpF.tp (h : TpF s R) : Tp s R := fun s' R' _ hz => h s' R' hz
theorem TpF.nil : TpF [] [] := fun _ _ h => h
theorem TpF.app (h : TpF s R) (g : TpF t Q) : TpF (s ++ t) (R ++ Q) := fun s' R' hz => by
  rw [List.append_assoc, List.append_assoc]; exact h _ _ (g _ _ hz)
theorem TpF.appT (h : TpF s R) (g : Tp t Q) : Tp (s ++ t) (R ++ Q) := fun s' R' ha hz => by
  rw [List.append_assoc, List.append_assoc]; exact h _ _ (g _ _ ha hz)
theorem Tp.app (h : Tp s R) (g : Tp t Q) (h1 : 1 ≤ t.length) (ha : alnum (hdl t) = false) : Tp (s ++ t) (R ++ Q) := fun s' R' ha' hz => by
  rw [List.append_assoc, List.append_assoc]; exact h _ _ (by rw [hdl_app h1]; exact ha) (g _ _ ha' hz)
theorem Tp.appF (h : Tp s R) (g : TpF t Q) (h1 : 1 ≤ t.length) (ha : alnum (hdl t) = false) : TpF (s ++ t) (R ++ Q) := fun s' R' hz => by
  rw [List.append_assoc, List.append_assoc]; exact h _ _ (by rw [hdl_app h1]; exact ha) (g _ _ hz)
theorem TpF.mk {c : Nat} (hc : mrk c = true) : TpF [c] [(c, 0)] := fun s' R' hz => Tz.mark hc hz
theorem TpF.sp {c : Nat} (hc : c = 32 ∨ c = 10) : TpF [c] [] := fun s' R' hz => Tz.blank hc hz
theorem Tp.wd {w : List Nat} (h1 : 1 ≤ w.length) (h6 : w.length ≤ 6) (hw : ∀ j, j < w.length → 97 ≤ w.getD j 0 ∧ w.getD j 0 ≤ 122) : Tp w [(wkF (wpk w) 11 2, wpk w)] := fun s' R' ha hz => Tz.word h1 h6 hw ha hz
theorem dcm_val : ∀ v, v < 1000 → dgs (fun j => (dcm v).getD j 0) 0 (dcm v).length = v := by decide +kernel
theorem dcm_1 (v : Nat) : 1 ≤ (dcm v).length := by
  rw [dig_len]
  repeat' split
  all_goals omega
theorem Tp.nm {v : Nat} (hv : v < 1000) : Tp (dcm v) [(3, v)] := fun s' R' ha hz => by
  have := Tz.num (w := dcm v) (dcm_1 v) (dig_le v) (dig_lt hv) ha hz
  rw [dcm_val v hv] at this
  exact this
theorem wk_f : ∀ f, f < 8 → (wkF (wpk [97 + f]) 11 2, wpk [97 + f]) = (2, f + 1) := by decide +kernel
theorem wk_k : ∀ k, k < 5 → (wkF (wpk [99, 97 + k]) 11 2, wpk [99, 97 + k]) = (2, 97 + k) := by decide +kernel
theorem Tp.fact {f : Nat} (hf : f < 8) : Tp [97 + f] [(2, f + 1)] := by
  rw [← wk_f f hf]
  refine Tp.wd (Nat.le_refl 1) (by show 1 ≤ 6; omega) fun j hj => ?_
  have : j = 0 := by have : j < 1 := hj; omega
  subst this
  show 97 ≤ 97 + f ∧ 97 + f ≤ 122
  omega
theorem Tp.count {k : Nat} (hk : k < 5) : Tp [99, 97 + k] [(2, 97 + k)] := by
  rw [← wk_k k hk]
  refine Tp.wd (by show 1 ≤ 2; omega) (by show 2 ≤ 6; omega) fun j hj => ?_
  have : j < 2 := hj
  rcases (show j = 0 ∨ j = 1 by omega) with rfl | rfl
  · show 97 ≤ 99 ∧ 99 ≤ 122; omega
  · show 97 ≤ 97 + k ∧ 97 + k ≤ 122; omega
/-- a word between blanks -/
def allL (w : List Nat) : Bool := decide (1 ≤ w.length) && (decide (w.length ≤ 6) && (List.range w.length).all (fun j => decide (97 ≤ w.getD j 0) && decide (w.getD j 0 ≤ 122)))
theorem Tp.lit {w : List Nat} {q : Nat × Nat} (h : (allL w && decide ((wkF (wpk w) 11 2, wpk w) = q)) = true) : Tp w [q] := by
  unfold allL at h
  simp only [Bool.and_eq_true, decide_eq_true_eq, List.all_eq_true, List.mem_range] at h
  obtain ⟨⟨h1, h2, h3⟩, h4⟩ := h
  rw [← h4]
  exact Tp.wd h1 h2 h3
abbrev jnn {α : Type} (sep : List α) (p : Nat → List α) (n : Nat) : List α := jn sep p n
/-- joined -/
theorem Tp.jn {sep : List Nat} {sk : List (Nat × Nat)} {p : Nat → List Nat} {q : Nat → List (Nat × Nat)} (hs : TpF sep sk) (h1 : 1 ≤ sep.length) (ha : alnum (hdl sep) = false) : ∀ n, (∀ i, i < n + 1 → Tp (p i) (q i)) → Tp (jnn sep p (n + 1)) (jnn sk q (n + 1))
  | 0, hp => hp 0 (by omega)
  | n + 1, hp => by
    have ih := Tp.jn hs h1 ha n (fun i hi => hp i (by omega))
    have g := hs.appT (hp (n + 1) (by omega))
    have l1 : 1 ≤ (sep ++ p (n + 1)).length := by rw [List.length_append]; omega
    have a1 : alnum (hdl (sep ++ p (n + 1))) = false := by rw [hdl_app h1]; exact ha
    exact ih.app g l1 a1
end G7
