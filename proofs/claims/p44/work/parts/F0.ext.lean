/-! HEAPS THAT GROW: what the law's own steps leave as it was -/
def Sm (h h' : Hp) (a : Nat) : Prop := hpS h' a = hpS h a ∧ hpI h' a = hpI h a ∧ hpL h' a = hpL h a ∧ hpR h' a = hpR h a
abbrev txk (h : Hp) (a : Nat) : Prop := (hpS h a).1 = 17 ∨ (hpS h a).1 = 18
def Gw (h h' : Hp) (P : Nat → Prop) (c s : Nat) : Prop :=
  (hpN h ≤ hpN h' ∧ hpN h' ≤ hpN h + c ∧ hpM h ≤ hpM h' ∧ hpM h' ≤ hpM h + s) ∧ (∀ a, a < hpN h → ¬ P a → Sm h h' a) ∧
  ∀ a, a < hpN h' → txk h' a → (a < hpN h ∧ txk h a ∧ hpR h' a 0 = hpR h a 0) ∨ hpR h' a 0 = 0 ∨ (hpN h ≤ hpR h' a 0 ∧ hpR h' a 0 < hpN h')
/-- what Strings and builders have lies in the heap -/
def CLO (h : Hp) : Prop := 99 ≤ hpN h ∧ ∀ a, a < hpN h → txk h a → hpR h a 0 < hpN h
def nP (_ : Nat) : Prop := False
section F0
variable {h h' h1 h2 h3 : Hp} {P P' : Nat → Prop} {c c' s s' a b kd n : Nat}
theorem sR_ok {c k a x : Nat} {h : Hp} (hs : (hpS h a).1 = c + 1) : sR c k a x h = some (setR h a (updA (hpR h a) k x)) := by rw [sR, if_pos hs, upR_set]
theorem setR_S (r : Nat → Nat) : hpS (setR h a r) b = hpS h b := rfl
theorem setR_I (r : Nat → Nat) : hpI (setR h a r) b = hpI h b := rfl
theorem setR_L (r : Nat → Nat) : hpL (setR h a r) b = hpL h b := rfl
theorem setR_R (r : Nat → Nat) : hpR (setR h a r) b = if b = a then r else hpR h b := rfl
theorem setR_N (r : Nat → Nat) : hpN (setR h a r) = hpN h := rfl
theorem setR_M (r : Nat → Nat) : hpM (setR h a r) = hpM h := rfl
theorem nw_S : hpS (hpNew kd n h) b = if b = hpN h then (kd, n) else hpS h b := rfl
theorem nw_I (hb : b ≠ hpN h) : hpI (hpNew kd n h) b = hpI h b := by funext k; exact if_neg hb
theorem nw_L (hb : b ≠ hpN h) : hpL (hpNew kd n h) b = hpL h b := by funext k; exact if_neg hb
theorem nw_R (hb : b ≠ hpN h) : hpR (hpNew kd n h) b = hpR h b := by funext k; exact if_neg hb
theorem nw_I0 (k : Nat) : hpI (hpNew kd n h) (hpN h) k = 0 := if_pos rfl
theorem nw_L0 (k : Nat) : hpL (hpNew kd n h) (hpN h) k = 0 := if_pos rfl
theorem nw_R0 (k : Nat) : hpR (hpNew kd n h) (hpN h) k = 0 := if_pos rfl
theorem nw_N : hpN (hpNew kd n h) = hpN h + 1 := rfl
theorem nw_M : hpM (hpNew kd n h) = hpM h + n := rfl
theorem Gw.rf (c s : Nat) : Gw h h P c s := ⟨⟨Nat.le_refl _, Nat.le_add_right _ _, Nat.le_refl _, Nat.le_add_right _ _⟩, fun a _ _ => ⟨rfl, rfl, rfl, rfl⟩, fun a ha hk => Or.inl ⟨ha, hk, rfl⟩⟩
theorem Gw.tr (e : Gw h h1 P c s) (f : Gw h1 h2 P' c' s') (hp : ∀ a, a < hpN h → P' a → P a) : Gw h h2 P (c + c') (s + s') := by
  obtain ⟨⟨a1, a2, a3, a4⟩, a5, a6⟩ := e
  obtain ⟨⟨b1, b2, b3, b4⟩, b5, b6⟩ := f
  refine ⟨⟨by omega, by omega, by omega, by omega⟩, fun a ha hn => ?_, fun a ha hk => ?_⟩
  · obtain ⟨c1, c2, c3, c4⟩ := a5 a ha hn
    obtain ⟨d1, d2, d3, d4⟩ := b5 a (by omega) (fun q => hn (hp a ha q))
    exact ⟨d1.trans c1, d2.trans c2, d3.trans c3, d4.trans c4⟩
  · rcases b6 a ha hk with ⟨c1, c2, c3⟩ | c1 | c1
    · rcases a6 a c1 c2 with ⟨d1, d2, d3⟩ | d1 | d1
      · exact Or.inl ⟨d1, d2, c3.trans d3⟩
      · exact Or.inr (Or.inl (c3.trans d1))
      · exact Or.inr (Or.inr (by rw [c3]; omega))
    · exact Or.inr (Or.inl c1)
    · exact Or.inr (Or.inr (by omega))
theorem CLO.ex (h0 : CLO h) (e : Gw h h1 P c s) : CLO h1 := by
  obtain ⟨⟨a1, a2, a3, a4⟩, a5, a6⟩ := e
  have := h0.1
  refine ⟨by omega, fun a ha hk => ?_⟩
  rcases a6 a ha hk with ⟨c1, c2, c3⟩ | c1 | c1
  · have := h0.2 a c1 c2
    omega
  · omega
  · exact c1.2
theorem Gw.up (e : Gw h h1 P c s) (hp : ∀ a, a < hpN h → P a → P' a) (hc : c ≤ c') (hs : s ≤ s') : Gw h h1 P' c' s' := by
  obtain ⟨⟨a1, a2, a3, a4⟩, a5, a6⟩ := e
  exact ⟨⟨a1, by omega, a3, by omega⟩, fun a ha hn => a5 a ha (fun q => hn (hp a ha q)), a6⟩
theorem Gw.nw (e : Gw h h1 P c s) (kd n : Nat) : Gw h (hpNew kd n h1) P (c + 1) (s + n) := by
  obtain ⟨⟨a1, a2, a3, a4⟩, a5, a6⟩ := e
  refine ⟨⟨by rw [nw_N]; omega, by rw [nw_N]; omega, by rw [nw_M]; omega, by rw [nw_M]; omega⟩, fun a ha hn => ?_, fun a ha hk => ?_⟩
  · obtain ⟨c1, c2, c3, c4⟩ := a5 a ha hn
    have ne : a ≠ hpN h1 := by omega
    exact ⟨by rw [nw_S, if_neg ne]; exact c1, by rw [nw_I ne]; exact c2, by rw [nw_L ne]; exact c3, by rw [nw_R ne]; exact c4⟩
  · rw [nw_N] at ha
    by_cases q : a = hpN h1
    · subst q; exact Or.inr (Or.inl (nw_R0 0))
    · have hk' : txk h1 a := by unfold txk at hk ⊢; rw [nw_S, if_neg q] at hk; exact hk
      rw [nw_R q, nw_N]
      rcases a6 a (by omega) hk' with c1 | c1 | c1
      · exact Or.inl c1
      · exact Or.inr (Or.inl c1)
      · exact Or.inr (Or.inr ⟨c1.1, by omega⟩)
theorem Gw.sI (e : Gw h h1 P c s) {r : Nat → Int32} (ha : a < hpN h → P a) : Gw h (setI h1 a r) P c s := by
  obtain ⟨a1, a5, a6⟩ := e
  refine ⟨a1, fun b hb hn => ?_, fun b hb hk => a6 b hb hk⟩
  obtain ⟨c1, c2, c3, c4⟩ := a5 b hb hn
  have ne : b ≠ a := fun q => hn (by rw [q]; exact ha (by omega))
  exact ⟨c1, by rw [setI_I, if_neg ne]; exact c2, c3, c4⟩
theorem Gw.sR (e : Gw h h1 P c s) {r : Nat → Nat} (ha : a < hpN h → P a) (hr : txk h1 a → r 0 = 0 ∨ (hpN h ≤ r 0 ∧ r 0 < hpN h1)) : Gw h (setR h1 a r) P c s := by
  obtain ⟨a1, a5, a6⟩ := e
  refine ⟨a1, fun b hb hn => ?_, fun b hb hk => ?_⟩
  · obtain ⟨c1, c2, c3, c4⟩ := a5 b hb hn
    have ne : b ≠ a := fun q => hn (by rw [q]; exact ha (by omega))
    exact ⟨c1, c2, c3, by rw [setR_R, if_neg ne]; exact c4⟩
  · rw [setR_R]
    by_cases q : b = a
    · subst q
      rw [if_pos rfl]
      exact Or.inr (hr hk)
    · rw [if_neg q]; exact a6 b hb hk
theorem cp_S {src dst : Nat} {sp dp n : Int32} : hpS (cpH src sp dst dp n h) b = hpS h b := rfl
theorem cp_R {src dst : Nat} {sp dp n : Int32} : hpR (cpH src sp dst dp n h) b = hpR h b := rfl
theorem cp_L {src dst : Nat} {sp dp n : Int32} : hpL (cpH src sp dst dp n h) b = hpL h b := rfl
theorem cp_N {src dst : Nat} {sp dp n : Int32} : hpN (cpH src sp dst dp n h) = hpN h := rfl
theorem cp_I {src dst : Nat} {sp dp n : Int32} (hb : b ≠ dst) : hpI (cpH src sp dst dp n h) b = hpI h b := by funext k; exact if_neg hb
theorem cp_Id {src dst : Nat} {sp dp n : Int32} (k : Nat) : hpI (cpH src sp dst dp n h) dst k = va_cpy (bAt src h) (hpI h dst) (ixN sp) (ixN dp) (ixN n) k := if_pos rfl
theorem Gw.cp (e : Gw h h1 P c s) {src dst : Nat} {sp dp n : Int32} (ha : dst < hpN h → P dst) : Gw h (cpH src sp dst dp n h1) P c s := by
  obtain ⟨a1, a5, a6⟩ := e
  refine ⟨a1, fun b hb hn => ?_, fun b hb hk => a6 b hb hk⟩
  obtain ⟨c1, c2, c3, c4⟩ := a5 b hb hn
  have ne : b ≠ dst := fun q => hn (by rw [q]; exact ha (by omega))
  exact ⟨c1, by rw [cp_I ne]; exact c2, c3, c4⟩
theorem Gw.clo (e : Gw h h1 P c s) (v : Nat) (hv : (hpS h1 v).1 = 53) : Gw h (hpClo v h1) P (c + 1) (s + (hpS h1 v).2) := by
  obtain ⟨⟨a1, a2, a3, a4⟩, a5, a6⟩ := e
  have zN : hpN (hpClo v h1) = hpN h1 + 1 := rfl
  have zM : hpM (hpClo v h1) = hpM h1 + (hpS h1 v).2 := rfl
  have zS : ∀ a, hpS (hpClo v h1) a = if a = hpN h1 then hpS h1 v else hpS h1 a := fun a => rfl
  refine ⟨⟨by rw [zN]; omega, by rw [zN]; omega, by rw [zM]; omega, by rw [zM]; omega⟩, fun a ha hn => ?_, fun a ha hk => ?_⟩
  · obtain ⟨c1, c2, c3, c4⟩ := a5 a ha hn
    have ne : a ≠ hpN h1 := by omega
    exact ⟨by rw [zS, if_neg ne]; exact c1, by rw [← c2]; funext k; exact if_neg ne, by rw [← c3]; funext k; exact if_neg ne, by rw [← c4]; funext k; exact if_neg ne⟩
  · rw [zN] at ha
    by_cases q : a = hpN h1
    · unfold txk at hk
      rw [zS, if_pos q, hv] at hk
      omega
    · have hk' : txk h1 a := by unfold txk at hk ⊢; rw [zS, if_neg q] at hk; exact hk
      have zR : hpR (hpClo v h1) a 0 = hpR h1 a 0 := if_neg q
      rw [zR, zN]
      rcases a6 a (by omega) hk' with c1 | c1 | c1
      · exact Or.inl c1
      · exact Or.inr (Or.inl c1)
      · exact Or.inr (Or.inr ⟨c1.1, by omega⟩)
theorem Gw.le (e : Gw h h1 P c s) : hpN h ≤ hpN h1 := e.1.1
theorem Gw.sm (e : Gw h h1 P c s) (ha : a < hpN h) (hn : ¬ P a) : Sm h h1 a := e.2.1 a ha hn
/-- a new object -/
theorem newO_ok (c N : Nat) (h99 : 99 ≤ hpN h) : newO c N h = some (hpN h, hpNew (c + 1) N h) := if_pos h99
theorem newA_ok (kd n : Nat) (h99 : 99 ≤ hpN h) : newA kd n h = some (hpN h, hpNew kd n h) := if_pos h99
theorem newV_ok (kd : Nat) {n : Nat} (h99 : 99 ≤ hpN h) (hn : n ≤ 100000) : newV kd (nI n) h = some (hpN h, hpNew kd n h) := by
  unfold newV
  have e : (nI n).toNatClampNeg = n := ixN_nI (by omega)
  rw [e, if_pos ⟨nI_pos (by omega), hn⟩, newA_ok kd n h99]
end F0
