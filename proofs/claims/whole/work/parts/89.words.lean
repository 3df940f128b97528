/-! WORDS: the same on both sides -/
theorem pk5_inj : ∀ {l l' : List Nat}, (∀ c ∈ l, 1 ≤ c ∧ c ≤ 26) → (∀ c ∈ l', 1 ≤ c ∧ c ≤ 26) → pk5 l = pk5 l' → l = l'
  | [], [], _, _, _ => rfl
  | [], c :: l, _, h, e => by have := h c (List.mem_cons_self ..); have e : 0 = 32 * pk5 l + c := e; omega
  | c :: l, [], h, _, e => by have := h c (List.mem_cons_self ..); have e : 32 * pk5 l + c = 0 := e; omega
  | c :: l, d :: m, h, h', e => by
    have h1 := h c (List.mem_cons_self ..)
    have h2 := h' d (List.mem_cons_self ..)
    have e : 32 * pk5 l + c = 32 * pk5 m + d := e
    have : c = d := by omega
    subst this
    rw [pk5_inj (fun x hx => h x (List.mem_cons_of_mem _ hx)) (fun x hx => h' x (List.mem_cons_of_mem _ hx)) (by omega)]
theorem pk27_inj : ∀ {l l' : List Nat}, (∀ c ∈ l, 1 ≤ c ∧ c ≤ 26) → (∀ c ∈ l', 1 ≤ c ∧ c ≤ 26) → pk27 l = pk27 l' → l = l'
  | [], [], _, _, _ => rfl
  | [], c :: l, _, h, e => by have := h c (List.mem_cons_self ..); have e : 0 = 27 * pk27 l + c := e; omega
  | c :: l, [], h, _, e => by have := h c (List.mem_cons_self ..); have e : 27 * pk27 l + c = 0 := e; omega
  | c :: l, d :: m, h, h', e => by
    have h1 := h c (List.mem_cons_self ..)
    have h2 := h' d (List.mem_cons_self ..)
    have e : 27 * pk27 l + c = 27 * pk27 m + d := e
    have : c = d := by omega
    subst this
    rw [pk27_inj (fun x hx => h x (List.mem_cons_of_mem _ hx)) (fun x hx => h' x (List.mem_cons_of_mem _ hx)) (by omega)]
theorem pk27_lt : ∀ (l : List Nat) (k : Nat), l.length ≤ k → (∀ c ∈ l, c < 27) → pk27 l < 27 ^ k
  | [], k, _, _ => Nat.pow_pos (by omega)
  | c :: l, 0, h, _ => by simp at h
  | c :: l, k + 1, h, hc => by
    have := pk27_lt l k (by simpa using h) (fun d hd => hc d (List.mem_cons_of_mem _ hd))
    have h2 := hc c (List.mem_cons_self ..)
    show 27 * pk27 l + c < 27 ^ (k + 1)
    rw [Nat.pow_succ]
    omega
theorem wrd_l {l : List Nat} (h : wrd l) : pk27 l < 387420489 := pk27_lt l 6 h.1 (fun c hc => by have := h.2 c hc; omega)
/-- words are the same by either packing -/
theorem pk_iff {l l' : List Nat} (h : wrd l) (h' : wrd l') : (pk5 l = pk5 l' ↔ l = l') ∧ (pk27 l = pk27 l' ↔ l = l') :=
  ⟨⟨pk5_inj h.2 h'.2, fun e => by rw [e]⟩, ⟨pk27_inj h.2 h'.2, fun e => by rw [e]⟩⟩
theorem wkF_or (v : Nat) : ∀ m, (wkF v m 2 = 2 ∧ ∀ w, w < m → pk5 (rsW.getD w []) ≠ v) ∨ ∃ w, w < m ∧ wkF v m 2 = 256 + w ∧ pk5 (rsW.getD w []) = v := by
  intro m
  induction m with
  | zero => exact Or.inl ⟨rfl, fun w hw => by omega⟩
  | succ m ih =>
    have e : wkF v (m + 1) 2 = if pk5 (rsW.getD m []) = v then 256 + m else wkF v m 2 := rfl
    by_cases q : pk5 (rsW.getD m []) = v
    · exact Or.inr ⟨m, by omega, by rw [e, if_pos q], q⟩
    · rw [if_neg q] at e
      rcases ih with ⟨h1, h2⟩ | ⟨w, h1, h2, h3⟩
      · refine Or.inl ⟨by rw [e, h1], fun w hw => ?_⟩
        by_cases c : w = m
        · rw [c]; exact q
        · exact h2 w (by omega)
      · exact Or.inr ⟨w, by omega, by rw [e, h2], h3⟩
theorem dgs_lt {X : Nat → Nat} {b : Nat} : ∀ m, (∀ i, b ≤ i → i < b + m → bet X 48 57 i = true) → dgs X b m < 10 ^ m
  | 0, _ => by show 0 < 1; omega
  | m + 1, h => by
    have := dgs_lt m (fun i h1 h2 => h i h1 (by omega))
    have h2 := bet_on (h (b + m) (by omega) (by omega))
    show dgs X b m * 10 + (X (b + m) - 48) < 10 ^ (m + 1)
    rw [Nat.pow_succ]
    omega
/-- what a token is, on both sides -/
def tkc (X : Nat → Nat) (n b : Nat) : Prop :=
  (n ≤ b ∧ ck X n b = 0 ∧ mtk X n b = 0) ∨ (b < n ∧ ck X n b = 1 ∧ mtk X n b = 1) ∨ (∃ w, b < n ∧ w < 11 ∧ ck X n b = 256 + w ∧ mtk X n b = 2 ∧ mwd X n b = pk27 (rsW.getD w [])) ∨
  (∃ l, b < n ∧ wrd l ∧ ck X n b = 2 ∧ mtk X n b = 2 ∧ mwd X n b = pk27 l ∧ cv X n b = pk5 l ∧ ∀ w, w < 11 → l ≠ rsW.getD w []) ∨ (b < n ∧ ck X n b = 3 ∧ mtk X n b = 3 ∧ mvl X n b = cv X n b ∧ cv X n b ≤ 999) ∨ (b < n ∧ mrk (ck X n b) = true ∧ mtk X n b = 4 ∧ mvl X n b = ck X n b)
theorem tkc_all (X : Nat → Nat) (n b : Nat) : tkc X n b := by
  by_cases hb : n ≤ b
  · exact Or.inl ⟨hb, by unfold ck; rw [if_pos hb], by unfold mtk; rw [if_pos hb]⟩
  have hb' : b < n := by omega
  cases hl : bet X 97 122 b with
  | true =>
    have hge : b ≤ we X n b := rn_ge _ n b
    have hin : ∀ i, b ≤ i → i < we X n b → bet X 97 122 i = true := fun i h1 h2 => rn_in h1 h2
    by_cases c : 6 < we X n b - b
    · exact Or.inr (Or.inl ⟨hb', by unfold ck; rw [if_neg hb, if_pos hl, if_pos c], by unfold mtk; rw [if_neg hb, if_pos hl, if_pos c]⟩)
    · have hw : wrd (lts X b (we X n b - b)) := ⟨by rw [lts_len]; omega, lts_in (fun i h1 h2 => hin i h1 (by omega))⟩
      have e1 : ck X n b = wkF (pk5 (lts X b (we X n b - b))) 11 2 := by unfold ck; rw [if_neg hb, if_pos hl, if_neg c]
      have e2 : cv X n b = pk5 (lts X b (we X n b - b)) := by unfold cv; rw [if_neg hb, if_pos hl, if_neg c]
      have e3 : mtk X n b = 2 := by unfold mtk; rw [if_neg hb, if_pos hl, if_neg c]
      have e4 : mwd X n b = pk27 (lts X b (we X n b - b)) := by unfold mwd; rw [if_neg hb, if_pos hl, Nat.min_eq_right (by omega)]
      rcases wkF_or (pk5 (lts X b (we X n b - b))) 11 with ⟨h1, h2⟩ | ⟨w, h1, h2, h3⟩
      · exact Or.inr (Or.inr (Or.inr (Or.inl ⟨_, hb', hw, by rw [e1, h1], e3, e4, e2, fun w hw' q => h2 w hw' (by rw [← q])⟩)))
      · have : rsW.getD w [] = lts X b (we X n b - b) := ((pk_iff (rs_wrd w h1) hw).1).mp h3
        exact Or.inr (Or.inr (Or.inl ⟨w, hb', h1, by rw [e1, h2], e3, by rw [e4, this]⟩))
  | false =>
    have hl' : ¬ bet X 97 122 b = true := by rw [hl]; exact Bool.false_ne_true
    cases hd : bet X 48 57 b with
    | true =>
      have hin : ∀ i, b ≤ i → i < de X n b → bet X 48 57 i = true := fun i h1 h2 => rn_in h1 h2
      by_cases c : 3 < de X n b - b
      · exact Or.inr (Or.inl ⟨hb', by unfold ck; rw [if_neg hb, if_neg hl', if_pos hd, if_pos c], by unfold mtk; rw [if_neg hb, if_neg hl', if_pos hd, if_pos c]⟩)
      · have e2 : cv X n b = dgs X b (de X n b - b) := by unfold cv; rw [if_neg hb, if_neg hl', if_pos hd, if_neg c]
        have hlt := dgs_lt (X := X) (b := b) (de X n b - b) (fun i h1 h2 => hin i h1 (by omega))
        have : 10 ^ (de X n b - b) ≤ 10 ^ 3 := Nat.pow_le_pow_right (by omega) (by omega)
        exact Or.inr (Or.inr (Or.inr (Or.inr (Or.inl ⟨hb', by unfold ck; rw [if_neg hb, if_neg hl', if_pos hd, if_neg c], by unfold mtk; rw [if_neg hb, if_neg hl', if_pos hd, if_neg c], by rw [e2]; unfold mvl; rw [if_neg hb, if_neg hl', if_pos hd, Nat.min_eq_right (by omega)], by rw [e2]; omega⟩))))
    | false =>
      have hd' : ¬ bet X 48 57 b = true := by rw [hd]; exact Bool.false_ne_true
      by_cases c : mrk (X b) = true
      · have e1 : ck X n b = X b := by unfold ck; rw [if_neg hb, if_neg hl', if_neg hd', if_pos c]
        exact Or.inr (Or.inr (Or.inr (Or.inr (Or.inr ⟨hb', by rw [e1, c], by unfold mtk; rw [if_neg hb, if_neg hl', if_neg hd', if_pos c], by rw [e1]; unfold mvl; rw [if_neg hb, if_neg hl', if_neg hd']⟩))))
      · exact Or.inr (Or.inl ⟨hb', by unfold ck; rw [if_neg hb, if_neg hl', if_neg hd', if_neg c], by unfold mtk; rw [if_neg hb, if_neg hl', if_neg hd', if_neg c]⟩)
theorem mrk_c {c : Nat} (h : mrk c = true) : c = 33 ∨ c = 38 ∨ c = 124 ∨ c = 40 ∨ c = 41 ∨ c = 44 ∨ c = 59 := by
  unfold mrk at h
  simp only [Bool.or_eq_true, decide_eq_true_eq] at h
  omega
def rsY (w j : Nat) : Nat := (sByte (2 + w) j).toInt.toNat
theorem spell_ok {w : Nat} (hw : w < 11) : mX12_spelled (12 + w) = some (lN (pk27 (rsW.getD w []))) := by
  have hlen : ∀ w, w < 11 → mJ0_length_8abf5 (12 + w) = some (nI (sLen (2 + w))) ∧ sLen (2 + w) ≤ 6 ∧ lts (rsY w) 0 (sLen (2 + w)) = rsW.getD w [] := by decide +kernel
  have hch : ∀ w, w < 11 → ∀ j, j < sLen (2 + w) → mJ0_charAt_5068e (12 + w) (nI j) = some (nI (rsY w j)) ∧ 97 ≤ rsY w j ∧ rsY w j ≤ 122 := by decide +kernel
  obtain ⟨h1, h2, h3⟩ := hlen w hw
  unfold mX12_spelled mX12_spelled_l4
  rw [← h3]
  refine lp_traj (f := fun s : Int64 × Int32 => mX12_spelled_l4f (12 + w) s.1 s.2) (sLen (2 + w)) (fun j => (lN (pk27 (lts (rsY w) 0 j)), nI j)) (lN (pk27 (lts (rsY w) 0 (sLen (2 + w))))) (fun j hj => ?_) ?_
  · obtain ⟨c1, c2, c3⟩ := hch w hw j hj
    show mX12_spelled_l4f (12 + w) (lN (pk27 (lts (rsY w) 0 j))) (nI j) = _
    unfold mX12_spelled_l4f
    rw [h1, obind, c_lt hj (by omega), c1, obind, nl_c _ (by omega), show (27 : Int64) = lN 27 from rfl, show (96 : Int64) = lN 96 from rfl, lN_mul, lN_add, lN_sub (by omega), nI_1]
    show _ = some (Sum.inl (lN (27 * pk27 (lts (rsY w) 0 j) + (rsY w (0 + j) - 96)), nI (j + 1)))
    rw [Nat.zero_add, show 27 * pk27 (lts (rsY w) 0 j) + rsY w j - 96 = 27 * pk27 (lts (rsY w) 0 j) + (rsY w j - 96) by omega]
  · show mX12_spelled_l4f (12 + w) (lN (pk27 (lts (rsY w) 0 (sLen (2 + w))))) (nI (sLen (2 + w))) = _
    unfold mX12_spelled_l4f
    rw [h1, obind, c_nlt (Nat.le_refl _) (by omega), xts]
