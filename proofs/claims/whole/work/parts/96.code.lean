/-! CODE that is read: heights, and one step more on both sides -/
def RQ (cd : Nat → Nat) (a b h h' : Nat) : Prop := a ≤ b ∧ ∃ H : Nat → Nat, H a = h ∧ H b = h' ∧ ∀ s, a ≤ s → s < b → hok (cd s) (H s) = true ∧ H (s + 1) = hst (cd s) (H s)
theorem RQ.nil (cd : Nat → Nat) (a h : Nat) : RQ cd a a h h := ⟨Nat.le_refl _, fun _ => h, rfl, rfl, fun s h1 h2 => by omega⟩
theorem RQ.one {cd : Nat → Nat} {a h : Nat} (ho : hok (cd a) h = true) : RQ cd a (a + 1) h (hst (cd a) h) :=
  ⟨by omega, fun s => if s = a then h else hst (cd a) h, if_pos rfl, if_neg (by omega), fun s h1 h2 => by
    have : s = a := by omega
    subst this
    show hok (cd s) (if s = s then h else hst (cd s) h) = true ∧ (if s + 1 = s then h else hst (cd s) h) = hst (cd s) (if s = s then h else hst (cd s) h)
    rw [if_pos rfl, if_neg (by omega)]
    exact ⟨ho, rfl⟩⟩
theorem RQ.tr {cd : Nat → Nat} {a b c h h' h'' : Nat} (p : RQ cd a b h h') (q : RQ cd b c h' h'') : RQ cd a c h h'' := by
  obtain ⟨p1, H, p2, p3, p4⟩ := p
  obtain ⟨q1, G, q2, q3, q4⟩ := q
  refine ⟨by omega, fun s => if s ≤ b then H s else G s, by simp only [if_pos p1]; exact p2, ?_, fun s h1 h2 => ?_⟩
  · by_cases e : c ≤ b
    · have : c = b := by omega
      subst this
      simp only [if_pos (Nat.le_refl _)]
      rw [p3, ← q2, q3]
    · simp only [if_neg e]; exact q3
  · by_cases e : s < b
    · simp only [if_pos (show s ≤ b by omega), if_pos (show s + 1 ≤ b by omega)]
      exact p4 s h1 e
    · by_cases e2 : s = b
      · subst e2
        simp only [if_pos (Nat.le_refl _), if_neg (show ¬ s + 1 ≤ s by omega)]
        rw [p3, ← q2]
        exact q4 s (Nat.le_refl _) h2
      · simp only [if_neg (show ¬ s ≤ b by omega), if_neg (show ¬ s + 1 ≤ b by omega)]
        exact q4 s (by omega) h2
theorem RQ.cg {cd cd' : Nat → Nat} {a b h h' : Nat} (p : RQ cd a b h h') (e : ∀ s, a ≤ s → s < b → cd' s = cd s) : RQ cd' a b h h' := by
  obtain ⟨p1, H, p2, p3, p4⟩ := p
  exact ⟨p1, H, p2, p3, fun s h1 h2 => by rw [e s h1 h2]; exact p4 s h1 h2⟩
theorem RQ.wf {cd : Nat → Nat} {a b : Nat} (p : RQ cd a b 0 1) : wfE cd a b := by
  obtain ⟨p1, H, p2, p3, p4⟩ := p
  have e : ∀ k, k ≤ b - a → hAt cd a k = H (a + k) := by
    intro k
    induction k with
    | zero => intro _; rw [Nat.add_zero, p2]; rfl
    | succ k ih =>
      intro hk
      show hst (cd (a + k)) (hAt cd a k) = H (a + (k + 1))
      rw [ih (by omega), ← Nat.add_assoc, (p4 (a + k) (by omega) (by omega)).2]
  refine ⟨p1, fun k hk => ?_, ?_⟩
  · rw [e k (by omega)]; exact (p4 (a + k) (by omega) (by omega)).1
  · rw [e _ (Nat.le_refl _), show a + (b - a) = b by omega, p3]
/-- a run of code whose facts are below a bound -/
def RG (tb : Nat) (cd : Nat → Nat) (a b h h' : Nat) : Prop := RQ cd a b h h' ∧ ∀ s, a ≤ s → s < b → cd s < 100 → cd s < tb
theorem RG.nil (tb : Nat) (cd : Nat → Nat) (a h : Nat) : RG tb cd a a h h := ⟨RQ.nil cd a h, fun s h1 h2 => by omega⟩
theorem RG.one {tb : Nat} {cd : Nat → Nat} {a h : Nat} (ho : hok (cd a) h = true) (hb : cd a < 100 → cd a < tb) : RG tb cd a (a + 1) h (hst (cd a) h) :=
  ⟨RQ.one ho, fun s h1 h2 => by
    have : s = a := by omega
    subst this
    exact hb⟩
theorem RG.tr {tb : Nat} {cd : Nat → Nat} {a b c h h' h'' : Nat} (p : RG tb cd a b h h') (q : RG tb cd b c h' h'') : RG tb cd a c h h'' := ⟨p.1.tr q.1, fun s h1 h2 h3 => by
  by_cases e : s < b
  · exact p.2 s h1 e h3
  · exact q.2 s (by omega) h2 h3⟩
theorem RG.cg {tb : Nat} {cd cd' : Nat → Nat} {a b h h' : Nat} (p : RG tb cd a b h h') (e : ∀ s, a ≤ s → s < b → cd' s = cd s) : RG tb cd' a b h h' := ⟨p.1.cg e, fun s h1 h2 => by rw [e s h1 h2]; exact p.2 s h1 h2⟩
theorem RG.wf {tb : Nat} {cd : Nat → Nat} {a b : Nat} (p : RG tb cd a b 0 1) : wfE cd a b := p.1.wf
/-- one step of code more, as told -/
def sT (T : Nat → Nat) (c : Nat) : Nat → Nat := updA (updA T (150 + T 7) c) 7 (T 7 + 1)
theorem sT_7 (T : Nat → Nat) (c : Nat) : sT T c 7 = T 7 + 1 := updA_same _ _ _
theorem sT_at {T : Nat → Nat} {c : Nat} : cT (sT T c) (T 7) = c := by
  unfold cT sT
  rw [updA_ne _ _ (by omega), updA_same]
theorem sT_ne {T : Nat → Nat} {c j : Nat} (h7 : j ≠ 7) (h : j ≠ 150 + T 7) : sT T c j = T j := by
  unfold sT
  rw [updA_ne _ _ h7, updA_ne _ _ h]
theorem sT_lo {T : Nat → Nat} {c s : Nat} (h : s < T 7) : cT (sT T c) s = cT T s := sT_ne (by omega) (by omega)
/-- the code, as the class has it -/
def CK (I : Nat → Nat → Int32) (la off : Nat) (T : Nat → Nat) : Prop := I la 13 = nI (off + T 7) ∧ ∀ j, j < T 7 → I (la + 7) (off + j) = nI (cc (cT T j))
/-- the class leaves all but its own place, its code and the code's size -/
def KG (la : Nat) (I I' : Nat → Nat → Int32) : Prop := ∀ a, a ≤ 960 → I la 13 = nI a → ∃ b, b ≤ 960 ∧ a ≤ b ∧ I' la 13 = nI b ∧ ∀ j, j < a → I' (la + 7) j = I (la + 7) j
def CF3 (la : Nat) (I I' : Nat → Nat → Int32) : Prop := (∀ x, x ≠ 282 → x ≠ la → x ≠ la + 7 → I' x = I x) ∧ (∀ k, k ≠ 13 → I' la k = I la k) ∧ KG la I I'
section Code
variable {σ : Sg} {I I' J J' I1 I2 I3 Ja : Nat → Nat → Int32} {L L' M M' L1 L2 : Nat → Nat → Int64} {X : Nat → Nat} {n m i la off t1 t2 fl pl : Nat} {W : Nat → List Nat} {T T' : Nat → Nat}
theorem CF3.rf : CF3 la I I := ⟨fun _ _ _ _ => rfl, fun _ _ => rfl, fun a h e => ⟨a, h, Nat.le_refl _, e, fun _ _ => rfl⟩⟩
theorem CF3.tr (h : CF3 la I I1) (g : CF3 la I1 I2) : CF3 la I I2 := ⟨fun x a b c => (g.1 x a b c).trans (h.1 x a b c), fun k a => (g.2.1 k a).trans (h.2.1 k a), fun a ha e => by
  obtain ⟨b, hb, ab, e1, k1⟩ := h.2.2 a ha e
  obtain ⟨c, hc, bc, e2, k2⟩ := g.2.2 b hb e1
  exact ⟨c, hc, Nat.le_trans ab bc, e2, fun j hj => (k2 j (by omega)).trans (k1 j hj)⟩⟩
theorem CF2.c3 (h : CF2 I I') (hla : isLa la) : CF3 la I I' := ⟨fun x a _ _ => h x a, fun k _ => by rw [h la (by rcases hla with rfl | rfl <;> omega)], fun a ha e => ⟨a, ha, Nat.le_refl _, by rw [h la (by rcases hla with rfl | rfl <;> omega)]; exact e, fun j _ => by rw [h (la + 7) (by rcases hla with rfl | rfl <;> omega)]⟩⟩
theorem CK.cf (h : CK I la off T) (hla : isLa la) (f : CF2 I I') : CK I' la off T := by
  unfold CK
  rw [f la (by rcases hla with rfl | rfl <;> omega), f (la + 7) (by rcases hla with rfl | rfl <;> omega)]
  exact h
theorem CN.c3 (h : CN I la t1 t2 W) (hla : isLa la) (f : CF3 la I I') : CN I' la t1 t2 W := by
  unfold CN
  rw [f.2.1 1 (by omega), f.2.1 2 (by omega), f.1 (la + 2) (by rcases hla with rfl | rfl <;> omega) (by omega) (by omega)]
  exact h
theorem PCk.c3 (h : PCk I X n m i) (hla : isLa la) (f : CF3 la I I') (f5 : I' 282 = I 282) : PCk I' X n m i := by
  have e : ∀ x, x < 108 → I' x = I x := fun x hx => f.1 x (by omega) (by rcases hla with rfl | rfl <;> omega) (by rcases hla with rfl | rfl <;> omega)
  refine ⟨⟨h.1.1, by rw [f5]; exact h.1.2⟩, h.2.1, ⟨by rw [e 103 (by omega)]; exact h.2.2.1.1, fun j hj => by rw [e 104 (by omega), e 105 (by omega), e 106 (by omega)]; exact h.2.2.1.2 j hj⟩, h.2.2.2.1, h.2.2.2.2.1, by rw [f5]; exact h.2.2.2.2.2.1, h.2.2.2.2.2.2⟩
/-- the class emits -/
theorem emit_ok (h : CK I la off T) (hla : isLa la) (hb : off + T 7 < 960) {v : Int32} {c : Nat} (hv : v = nI (cc c)) : ∃ I', mX1_emit la v (hk σ I L) = some (hk σ I' L) ∧ CK I' la off (sT T c) ∧ CF3 la I I' ∧ I' 282 = I 282 := by
  have sh : SH (gN σ) la = (2, 20) ∧ SH (gN σ) (la + 7) = (50, 960) ∧ RF σ la 12 = la + 7 := by rcases hla with rfl | rfl <;> exact ⟨rfl, rfl, rfl⟩
  have sl : (hpS (hk σ I L) la).1 = 2 := by rw [hpS_hk, sh.1]
  refine ⟨rowUp (rowUp I (la + 7) (updA (I (la + 7)) (off + T 7) v)) la (updA (I la) 13 (nI (off + T 7 + 1))), ?_, ⟨?_, fun j hj => ?_⟩, ⟨fun x a b c => ?_, fun k hk' => ?_, fun a ha e => ⟨off + T 7 + 1, by omega, ?_, by rw [rowUp_same, updA_same], fun j hj => ?_⟩⟩, ?_⟩
  · unfold mX1_emit
    rw [if_pos sl, gR_la hla, obind, sh.2.2, gI_la hla, obind, h.1, put_nI (n := 960) (by rw [hpS_hk]; exact sh.2.1) (by omega) hb, obind, setI_hk, gI_la hla, obind, rowUp_ne _ _ (by omega), h.1, sI_ok (by rw [hpS_hk, sh.1]), obind, setI_hk, nI_1, hpI_hk', hpI_hk', rowUp_ne _ _ (by omega)]
  · rw [rowUp_same, updA_same, sT_7, Nat.add_assoc]
  · rw [sT_7] at hj
    rw [rowUp_ne _ _ (by omega), rowUp_same, updA_at]
    by_cases e : j = T 7
    · subst e; rw [if_pos rfl, sT_at, hv]
    · rw [if_neg (by omega), h.2 j (by omega), sT_lo (by omega)]
  · rw [rowUp_ne _ _ b, rowUp_ne _ _ c]
  · rw [rowUp_same, updA_ne _ _ hk']
  · have := (nI_eq (a := a) (b := off + T 7) (by omega) (by omega)).mp (e.symm.trans h.1)
    omega
  · have := (nI_eq (a := a) (b := off + T 7) (by omega) (by omega)).mp (e.symm.trans h.1)
    rw [rowUp_ne _ _ (by omega), rowUp_same, updA_ne _ _ (by omega)]
  · rw [rowUp_ne _ _ (by rcases hla with rfl | rfl <;> omega), rowUp_ne _ _ (by rcases hla with rfl | rfl <;> omega)]
/-- the model steps -/
theorem mstep_ok (h : rTd J T) (h17 : J 433 17 = 0) (hb : T 7 < 480) {a b c : Nat} (hc : 100 * a + b = c) : ∃ r, mX12_step 433 (nI a) (nI b) (hk σ J M) = some (hk σ (rowUp J 435 r) M) ∧ rTd (rowUp J 435 r) (sT T c) := by
  have l7 : ∀ {J : Nat → Nat → Int32}, ldI 435 (7 : Int32) (hk σ J M) = some (J 435 7) := by
    intro J
    rw [show (7 : Int32) = nI 7 from rfl, ldI_ok (n := 640) rfl (by omega) (by omega), hpI_hk]
  refine ⟨updA (updA (J 435) (150 + T 7) (nI c)) 7 (nI (T 7 + 1)), ?_, fun j hj => ?_⟩
  · unfold mX12_step
    rw [if_pos s433, gMI, obind, if_pos h17, gM 1, RF_433_1, gM 1, RF_433_1, l7, obind, h 7 (by omega), show (100 : Int32) = nI 100 from rfl, show (150 : Int32) = nI 150 from rfl, pk_mul, nI_add, nI_add, hc, stI_ok (n := 640) rfl (by omega) (by omega), obind, setI_hk, hpI_hk', gM 1, RF_433_1, l7, obind, rowUp_same, updA_ne _ _ (by omega), h 7 (by omega), nI_1, show (7 : Int32) = nI 7 from rfl, stI_ok (n := 640) rfl (by omega) (by omega), obind, setI_hk, hpI_hk', rowUp_same, rowUp_two]
  · rw [rowUp_same]
    unfold sT
    rw [updA_at, updA_at, updA_at, updA_at]
    by_cases e : j = 7
    · rw [if_pos e, if_pos e]
    · rw [if_neg e, if_neg e]
      by_cases e2 : j = 150 + T 7
      · rw [if_pos e2, if_pos e2]
      · rw [if_neg e2, if_neg e2]; exact h j hj
theorem PMk.up435 (h : PMk J M X n i) (r : Nat → Int32) : PMk (rowUp J 435 r) M X n i :=
  ⟨⟨h.1.1, by rw [rowUp_ne _ _ (by omega)]; exact h.1.2.1, fun j hj => by rw [rowUp_ne _ _ (by omega)]; exact h.1.2.2 j hj⟩, ⟨by rw [rowUp_ne _ _ (by omega)]; exact h.2.1.1, by rw [rowUp_ne _ _ (by omega)]; exact h.2.1.2.1, by rw [rowUp_ne _ _ (by omega)]; exact h.2.1.2.2.1, by rw [rowUp_ne _ _ (by omega)]; exact h.2.1.2.2.2.1, h.2.1.2.2.2.2⟩, by rw [rowUp_ne _ _ (by omega)]; exact h.2.2⟩
end Code
