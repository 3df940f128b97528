/-! READING, the class alone: where it stands in the tokens, and what tokens come -/
def PCk (I : Nat → Nat → Int32) (X : Nat → Nat) (n m i : Nat) : Prop := (n ≤ 480 ∧ I 282 7 = 0) ∧ m ≤ n ∧ TK I X n (m + 1) ∧ pz X n m = n ∧ (∀ j, j < m → pz X n j < n) ∧ I 282 5 = nI i ∧ i ≤ m
/-- the tokens from one on: kinds and values -/
def TS (X : Nat → Nat) (n m : Nat) : Nat → List (Nat × Nat) → Prop
  | i, [] => i = m
  | i, q :: R => i < m ∧ ck X n (pz X n i) = q.1 ∧ cv X n (pz X n i) = q.2 ∧ TS X n m (i + 1) R
def hdk (R : List (Nat × Nat)) : Nat := match R with
  | [] => 0
  | q :: _ => q.1
def CN (I : Nat → Nat → Int32) (la t1 t2 : Nat) : Prop := t1 ≤ 8 ∧ t2 ≤ 5 ∧ I la 1 = nI t1 ∧ I la 2 = nI t2 ∧ (∀ f, f < t1 → I (la + 2) f = nI (f + 1)) ∧ ∀ k, k < t2 → I (la + 2) (8 + k) = nI (97 + k)
def CF2 (I I' : Nat → Nat → Int32) : Prop := ∀ x, x ≠ 282 → I' x = I x
def oI (o : Option Nat) : Int32 := match o with
  | some i => nI i
  | none => -1
section G3a
variable {σ : Sg} {I I' J J' I1 I2 I3 Ja : Nat → Nat → Int32} {L L' M M' L1 L2 : Nat → Nat → Int64} {X : Nat → Nat} {n m i la t1 t2 : Nat} {R R' : List (Nat × Nat)}
theorem PCk.le (h : PCk I X n m i) : pz X n i ≤ n ∧ i ≤ 480 := ⟨pz_le X n i, by have := h.1; have := h.2.1; have := h.2.2.2.2.2.2; omega⟩
theorem PCk.kd (h : PCk I X n m i) : I 104 i = nI (ck X n (pz X n i)) ∧ I 105 i = nI (pz X n i) ∧ I 106 i = nI (cv X n (pz X n i)) := h.2.2.1.2 i (by have := h.2.2.2.2.2.2; omega)
theorem PCk.up (h : PCk I X n m i) {u : Nat → Int32} {j : Nat} (hj : u 5 = nI j) (hm : j ≤ m) (h7 : u 7 = I 282 7 := by rfl) : PCk (rowUp I 282 u) X n m j :=
  ⟨⟨h.1.1, by rw [rowUp_same, h7]; exact h.1.2⟩, h.2.1, ⟨by rw [rowUp_ne _ _ (by omega)]; exact h.2.2.1.1, fun i hi => by rw [rowUp_ne _ _ (by omega), rowUp_ne _ _ (by omega), rowUp_ne _ _ (by omega)]; exact h.2.2.1.2 i hi⟩, h.2.2.2.1, h.2.2.2.2.1, by rw [rowUp_same, hj], hm⟩
theorem gTok {ρ : Type} (f : Nat → Option ρ) : (gR 2 0 282 (hk σ I L)).bind f = f 103 := rfl
theorem gPI (k : Nat) : gI 2 k 282 (hk σ I L) = some (I 282 k) := gI_ok s282
theorem aLen_r {a k : Nat} (hs : SH (gN σ) a = (50, k)) : aLen a (hk σ I L) = some (nI k) := by
  unfold aLen
  rw [hpS_hk, hs]
  rfl
theorem nextKind_ok (h : PCk I X n m i) : mX2_nextKind 282 (hk σ I L) = some (nI (ck X n (pz X n i))) := by
  have := h.le
  unfold mX2_nextKind
  rw [if_pos s282, gPI, obind, h.2.2.2.2.2.1, if_neg (nI_pos (by omega)), obind, gTok, g103, RF_103_0, aLen_r (k := 481) rfl, obind, c_lt (by omega) (by omega), gTok, g103, RF_103_0, obind, ldI_ok (n := 481) rfl (by omega) (by omega), obind, hpI_hk, h.kd.1]
theorem nextValue_ok (h : PCk I X n m i) : mX2_nextValue 282 (hk σ I L) = some (nI (cv X n (pz X n i))) := by
  have := h.le
  unfold mX2_nextValue
  rw [if_pos s282, gPI, obind, h.2.2.2.2.2.1, if_neg (nI_pos (by omega)), obind, gTok, g103, RF_103_2, aLen_r (k := 481) rfl, obind, c_lt (by omega) (by omega), gTok, g103, RF_103_2, obind, ldI_ok (n := 481) rfl (by omega) (by omega), obind, hpI_hk, h.kd.2.2]
theorem CF2.rf : CF2 I I := fun _ _ => rfl
theorem CF2.tr (h : CF2 I I1) (g : CF2 I1 I2) : CF2 I I2 := fun x hx => (g x hx).trans (h x hx)
theorem CF2.up {u : Nat → Int32} : CF2 I (rowUp I 282 u) := fun x hx => rowUp_ne _ _ hx
theorem CN.cf (h : CN I la t1 t2) (hla : isLa la) (f : CF2 I I') : CN I' la t1 t2 := by
  have h1 := f la (by rcases hla with rfl | rfl <;> omega)
  have h2 := f (la + 2) (by rcases hla with rfl | rfl <;> omega)
  unfold CN
  rw [h1, h2]
  exact h
theorem la_sh {la : Nat} (h : isLa la) (g : En) : SH g la = (2, 20) ∧ SH g (la + 2) = (50, 13) := by
  rcases h with rfl | rfl <;> exact ⟨rfl, rfl⟩
theorem ldI_r {a k j : Nat} (hs : SH (gN σ) a = (50, k)) (hj : j < k) (hk' : k < 2147483648) : ldI a (nI j) (hk σ I L) = some (I a j) := by rw [ldI_ok (n := k) (by rw [hpS_hk]; exact hs) hj hk', hpI_hk]
theorem TS.len : ∀ {R : List (Nat × Nat)} {i : Nat}, TS X n m i R → i + R.length = m
  | [], i, h => by
    have h : i = m := h
    rw [List.length_nil]; omega
  | q :: R, i, h => by
    have := TS.len h.2.2.2
    rw [List.length_cons]; omega
theorem at_kind (hc : PCk I X n m i) (hR : TS X n m i R) : mX2_nextKind 282 (hk σ I L) = some (nI (hdk R)) := by
  rw [nextKind_ok hc]
  cases R with
  | nil =>
    have h : i = m := hR
    have : pz X n i = n := by rw [h]; exact hc.2.2.2.1
    rw [this]
    unfold ck
    rw [if_pos (Nat.le_refl _)]; rfl
  | cons q R => rw [hR.2.1]; rfl
theorem PCk.adv (h : PCk I X n m i) (hi : i < m) : PCk (rowUp I 282 (updA (I 282) 5 (nI (i + 1)))) X n m (i + 1) := h.up (updA_same _ _ _) (by omega)
theorem PCk.got (h : PCk I X n m i) (v : Int32) : PCk (rowUp I 282 (updA (I 282) 6 v)) X n m i := h.up (by rw [updA_ne _ _ (by omega)]; exact h.2.2.2.2.2.1) h.2.2.2.2.2.2
/-- the token that must come -/
theorem exp_ok (hc : PCk I X n m i) {c v : Nat} (hR : TS X n m i ((c, v) :: R)) : ∃ I', mX2_expect 282 (nI c) (hk σ I L) = some (1, hk σ I' L) ∧ PCk I' X n m (i + 1) ∧ TS X n m (i + 1) R ∧ CF2 I I' ∧ I' 282 6 = I 282 6 := by
  refine ⟨_, ?_, hc.adv hR.1, hR.2.2.2, CF2.up, by rw [rowUp_same, updA_ne _ _ (by omega)]⟩
  unfold mX2_expect
  rw [if_pos s282, at_kind hc hR, obind, if_pos (show nI (hdk ((c, v) :: R)) = nI c from rfl), gPI, obind, hc.2.2.2.2.2.1, sI_ok s282, obind, setI_hk, hpI_hk', nI_1]
theorem num_ok (hc : PCk I X n m i) {v lo hi : Nat} (hR : TS X n m i ((3, v) :: R)) (h1 : lo ≤ v) (h2 : v ≤ hi) (h3 : hi ≤ 999) : ∃ I', mX2_number 282 (nI lo) (nI hi) (hk σ I L) = some (1, hk σ I' L) ∧ PCk I' X n m (i + 1) ∧ TS X n m (i + 1) R ∧ CF2 I I' ∧ I' 282 6 = nI v := by
  have hg := hc.got (nI v)
  refine ⟨_, ?_, hg.adv hR.1, hR.2.2.2, fun x hx => by rw [rowUp_ne _ _ hx, rowUp_ne _ _ hx], by rw [rowUp_same, updA_ne _ _ (by omega), rowUp_same, updA_same]⟩
  have ev : cv X n (pz X n i) = v := hR.2.2.1
  have g6 : gI 2 6 282 (hk σ (rowUp I 282 (updA (I 282) 6 (nI v))) L) = some (nI v) := by rw [gPI, rowUp_same, updA_same]
  unfold mX2_number
  rw [if_pos s282, at_kind hc hR, obind, if_pos (show nI (hdk ((3, v) :: R)) = (3 : Int32) from rfl), nextValue_ok hc, obind, ev, sI_ok s282, obind, setI_hk, hpI_hk', g6, obind, if_neg (nI_nlt h1 (by omega)), obind, if_neg (nI_nlt h2 (by omega)), gPI, obind, hg.2.2.2.2.2.1, sI_ok s282, obind, setI_hk, hpI_hk', rowUp_same, nI_1]
theorem gDr {ρ : Type} (f : Nat → Option ρ) : (gR 2 3 282 (hk σ I L)).bind f = f (gpl σ) := rfl
theorem gDs {ρ : Type} (f : Nat → Option ρ) : (gR 2 4 282 (hk σ I L)).bind f = f (gps σ) := rfl
/-- names -/
theorem cfact_ok (h : CN I la t1 t2) (hla : isLa la) {v : Nat} (hv : v < 100000) : mX1_factNamed la (nI v) (hk σ I L) = some (oI (fstB (fun f => decide (f + 1 = v)) t1)) := by
  obtain ⟨h8, h5, c1, c2, h1, h2⟩ := id h
  have sh := la_sh hla (gN σ)
  unfold mX1_factNamed mX1_factNamed_l2
  rw [if_pos (by rw [hpS_hk, sh.1])]
  have := lp_first (f := fun s : Int32 => mX1_factNamed_l2f la (nI v) (hk σ I L) s) t1 (fun f => nI f) (fun f => decide (f + 1 = v)) (fun f => nI f) (-1 : Int32) (fun f hf hp => ?_) (fun f hf hp => ?_) ?_
  · refine this.trans ?_
    unfold oI
    rfl
  · show mX1_factNamed_l2f la (nI v) (hk σ I L) (nI f) = _
    unfold mX1_factNamed_l2f
    rw [gI_la hla, obind, c1, c_lt hf (by omega), gR_la hla, obind, RF_la_7 σ hla, aLen_r sh.2, obind, c_lt (by omega) (by omega), obind, ldI_r sh.2 (by omega) (by omega), obind, h1 f hf, c_eqd (by omega) (by omega), if_neg (of_decide_eq_false hp), nI_1]
  · show mX1_factNamed_l2f la (nI v) (hk σ I L) (nI f) = _
    unfold mX1_factNamed_l2f
    rw [gI_la hla, obind, c1, c_lt hf (by omega), gR_la hla, obind, RF_la_7 σ hla, aLen_r sh.2, obind, c_lt (by omega) (by omega), obind, ldI_r sh.2 (by omega) (by omega), obind, h1 f hf, of_decide_eq_true hp, if_pos rfl, xts]
  · show mX1_factNamed_l2f la (nI v) (hk σ I L) (nI t1) = _
    unfold mX1_factNamed_l2f
    rw [gI_la hla, obind, c1, c_nlt (Nat.le_refl _) (by omega), xts]
theorem ccount_ok (h : CN I la t1 t2) (hla : isLa la) {v : Nat} (hv : v < 100000) : mX1_countNamed la (nI v) (hk σ I L) = some (oI (fstB (fun k => decide (97 + k = v)) t2)) := by
  obtain ⟨h8, h5, c1, c2, h1, h2⟩ := id h
  have sh := la_sh hla (gN σ)
  unfold mX1_countNamed mX1_countNamed_l3
  rw [if_pos (by rw [hpS_hk, sh.1])]
  have := lp_first (f := fun s : Int32 => mX1_countNamed_l3f la (nI v) (hk σ I L) s) t2 (fun k => nI (8 + k)) (fun k => decide (97 + k = v)) (fun k => nI k) (-1 : Int32) (fun k hk' hp => ?_) (fun k hk' hp => ?_) ?_
  · refine this.trans ?_
    unfold oI
    rfl
  · show mX1_countNamed_l3f la (nI v) (hk σ I L) (nI (8 + k)) = _
    unfold mX1_countNamed_l3f
    rw [gI_la hla, obind, c2, show (8 : Int32) = nI 8 from rfl, nI_add, c_lt (by omega) (by omega), gR_la hla, obind, RF_la_7 σ hla, aLen_r sh.2, obind, c_lt (by omega) (by omega), obind, ldI_r sh.2 (by omega) (by omega), obind, h2 k hk', c_eqd (by omega) (by omega), if_neg (of_decide_eq_false hp), nI_1, Nat.add_assoc]
  · show mX1_countNamed_l3f la (nI v) (hk σ I L) (nI (8 + k)) = _
    unfold mX1_countNamed_l3f
    rw [gI_la hla, obind, c2, show (8 : Int32) = nI 8 from rfl, nI_add, c_lt (by omega) (by omega), gR_la hla, obind, RF_la_7 σ hla, aLen_r sh.2, obind, c_lt (by omega) (by omega), obind, ldI_r sh.2 (by omega) (by omega), obind, h2 k hk', of_decide_eq_true hp, if_pos rfl, nI_sub (by omega), Nat.add_sub_cancel_left, xts]
  · show mX1_countNamed_l3f la (nI v) (hk σ I L) (nI (8 + t2)) = _
    unfold mX1_countNamed_l3f
    rw [gI_la hla, obind, c2, show (8 : Int32) = nI 8 from rfl, nI_add, c_nlt (Nat.le_refl _) (by omega), xts]
theorem fst_f {f t : Nat} (hf : f < t) : fstB (fun g => decide (g + 1 = f + 1)) t = some f := fstB_some.mpr ⟨hf, decide_eq_true rfl, fun j hj => decide_eq_false (by omega)⟩
theorem fst_k {f t : Nat} (hf : f < t) : fstB (fun g => decide (97 + g = 97 + f)) t = some f := fstB_some.mpr ⟨hf, decide_eq_true rfl, fun j hj => decide_eq_false (by omega)⟩
/-- a fact that is known -/
theorem fact_ok (hc : PCk I X n m i) (hla : isLa (gpl σ)) (hN : CN I (gpl σ) t1 t2) {f : Nat} (hf : f < t1) (hR : TS X n m i ((2, f + 1) :: R)) :
    ∃ I', mX2_knownFact 282 (hk σ I L) = some (1, hk σ I' L) ∧ PCk I' X n m (i + 1) ∧ TS X n m (i + 1) R ∧ CF2 I I' ∧ I' 282 6 = nI f := by
  have t8 := hN.1
  have hg := hc.got (nI f)
  refine ⟨_, ?_, hg.adv hR.1, hR.2.2.2, fun x hx => by rw [rowUp_ne _ _ hx, rowUp_ne _ _ hx], by rw [rowUp_same, updA_ne _ _ (by omega), rowUp_same, updA_same]⟩
  have ev : cv X n (pz X n i) = f + 1 := hR.2.2.1
  have g6 : gI 2 6 282 (hk σ (rowUp I 282 (updA (I 282) 6 (nI f))) L) = some (nI f) := by rw [gPI, rowUp_same, updA_same]
  unfold mX2_knownFact
  rw [if_pos s282, at_kind hc hR, obind, if_pos (show nI (hdk ((2, f + 1) :: R)) = (2 : Int32) from rfl), gDr, nextValue_ok hc, obind, ev, cfact_ok hN hla (by omega), obind, fst_f hf, show oI (some f) = nI f from rfl, sI_ok s282, obind, setI_hk, hpI_hk', g6, obind, if_neg (nI_pos (by omega)), gPI, obind, hg.2.2.2.2.2.1, sI_ok s282, obind, setI_hk, hpI_hk', nI_1]
theorem count_ok (hc : PCk I X n m i) (hla : isLa (gpl σ)) (hN : CN I (gpl σ) t1 t2) {f : Nat} (hf : f < t2) (hR : TS X n m i ((2, 97 + f) :: R)) :
    ∃ I', mX2_knownCount 282 (hk σ I L) = some (1, hk σ I' L) ∧ PCk I' X n m (i + 1) ∧ TS X n m (i + 1) R ∧ CF2 I I' ∧ I' 282 6 = nI f := by
  have t8 := hN.2.1
  have hg := hc.got (nI f)
  refine ⟨_, ?_, hg.adv hR.1, hR.2.2.2, fun x hx => by rw [rowUp_ne _ _ hx, rowUp_ne _ _ hx], by rw [rowUp_same, updA_ne _ _ (by omega), rowUp_same, updA_same]⟩
  have ev : cv X n (pz X n i) = 97 + f := hR.2.2.1
  have g6 : gI 2 6 282 (hk σ (rowUp I 282 (updA (I 282) 6 (nI f))) L) = some (nI f) := by rw [gPI, rowUp_same, updA_same]
  unfold mX2_knownCount
  rw [if_pos s282, at_kind hc hR, obind, if_pos (show nI (hdk ((2, 97 + f) :: R)) = (2 : Int32) from rfl), gDr, nextValue_ok hc, obind, ev, ccount_ok hN hla (by omega), obind, fst_k hf, show oI (some f) = nI f from rfl, sI_ok s282, obind, setI_hk, hpI_hk', g6, obind, if_neg (nI_pos (by omega)), gPI, obind, hg.2.2.2.2.2.1, sI_ok s282, obind, setI_hk, hpI_hk', nI_1]
/-- a new name -/
theorem new_ok (hc : PCk I X n m i) (hla : isLa (gpl σ)) (hN : CN I (gpl σ) t1 t2) {v : Nat} (hv : v < 100000) (hf : ∀ f, f < t1 → f + 1 ≠ v) (hk' : ∀ k, k < t2 → 97 + k ≠ v) (hR : TS X n m i ((2, v) :: R)) :
    ∃ I', mX2_newName 282 (hk σ I L) = some (1, hk σ I' L) ∧ PCk I' X n m (i + 1) ∧ TS X n m (i + 1) R ∧ CF2 I I' ∧ I' 282 6 = nI v := by
  have hg := hc.got (nI v)
  have hN2 := hN.cf hla (CF2.up (I := I) (u := updA (I 282) 6 (nI v)))
  have f0 : fstB (fun g => decide (g + 1 = v)) t1 = none := fstB_none.mpr fun f h => decide_eq_false (hf f h)
  have k0 : fstB (fun g => decide (97 + g = v)) t2 = none := fstB_none.mpr fun f h => decide_eq_false (hk' f h)
  refine ⟨_, ?_, hg.adv hR.1, hR.2.2.2, fun x hx => by rw [rowUp_ne _ _ hx, rowUp_ne _ _ hx], by rw [rowUp_same, updA_ne _ _ (by omega), rowUp_same, updA_same]⟩
  have ev : cv X n (pz X n i) = v := hR.2.2.1
  have g6 : gI 2 6 282 (hk σ (rowUp I 282 (updA (I 282) 6 (nI v))) L) = some (nI v) := by rw [gPI, rowUp_same, updA_same]
  unfold mX2_newName
  rw [if_pos s282, at_kind hc hR, obind, if_pos (show nI (hdk ((2, v) :: R)) = (2 : Int32) from rfl), nextValue_ok hc, obind, ev, sI_ok s282, obind, setI_hk, hpI_hk', gDr, g6, obind, cfact_ok hN2 hla hv, obind, f0, if_pos (by decide), gDr, obind, ccount_ok hN2 hla hv, obind, k0, if_pos (by decide), gPI, obind, hg.2.2.2.2.2.1, sI_ok s282, obind, setI_hk, hpI_hk', nI_1]
end G3a
/-! CODE that is read: heights, and one step more on both sides -/
def RQ (cd : Nat → Nat) (a b h h' : Nat) : Prop := a ≤ b ∧ ∃ H : Nat → Nat, H a = h ∧ H b = h' ∧ ∀ s, a ≤ s → s < b → hok (cd s) (H s) = true ∧ H (s + 1) = hst (cd s) (H s)
theorem RQ.nil (cd : Nat → Nat) (a h : Nat) : RQ cd a a h h := ⟨Nat.le_refl _, fun _ => h, rfl, rfl, fun s h1 h2 => by omega⟩
theorem RQ.one {cd : Nat → Nat} {a h : Nat} (ho : hok (cd a) h = true) : RQ cd a (a + 1) h (hst (cd a) h) :=
  ⟨by omega, fun s => if s = a then h else hst (cd a) h, if_pos rfl, if_neg (by omega), fun s h1 h2 => by
    have : s = a := by omega
    subst this
    show hok (cd s) (if s = s then h else hst (cd s) h) = true ∧ (if s + 1 = s then h else hst (cd s) h) = hst (cd s) (if s = s then h else hst (cd s) h)
    rw [if_pos rfl, if_neg (by omega)]
    exact ⟨ho, rfl⟩⟩
theorem RQ.tr {cd : Nat → Nat} {a b c h h' h'' : Nat} (p : RQ cd a b h h') (q : RQ cd b c h' h'') : RQ cd a c h h'' := by
  obtain ⟨p1, H, p2, p3, p4⟩ := p
  obtain ⟨q1, G, q2, q3, q4⟩ := q
  refine ⟨by omega, fun s => if s ≤ b then H s else G s, by simp only [if_pos p1]; exact p2, ?_, fun s h1 h2 => ?_⟩
  · by_cases e : c ≤ b
    · have : c = b := by omega
      subst this
      simp only [if_pos (Nat.le_refl _)]
      rw [p3, ← q2, q3]
    · simp only [if_neg e]; exact q3
  · by_cases e : s < b
    · simp only [if_pos (show s ≤ b by omega), if_pos (show s + 1 ≤ b by omega)]
      exact p4 s h1 e
    · by_cases e2 : s = b
      · subst e2
        simp only [if_pos (Nat.le_refl _), if_neg (show ¬ s + 1 ≤ s by omega)]
        rw [p3, ← q2]
        exact q4 s (Nat.le_refl _) h2
      · simp only [if_neg (show ¬ s ≤ b by omega), if_neg (show ¬ s + 1 ≤ b by omega)]
        exact q4 s (by omega) h2
theorem RQ.cg {cd cd' : Nat → Nat} {a b h h' : Nat} (p : RQ cd a b h h') (e : ∀ s, a ≤ s → s < b → cd' s = cd s) : RQ cd' a b h h' := by
  obtain ⟨p1, H, p2, p3, p4⟩ := p
  exact ⟨p1, H, p2, p3, fun s h1 h2 => by rw [e s h1 h2]; exact p4 s h1 h2⟩
theorem RQ.wf {cd : Nat → Nat} {a b : Nat} (p : RQ cd a b 0 1) : wfE cd a b := by
  obtain ⟨p1, H, p2, p3, p4⟩ := p
  have e : ∀ k, k ≤ b - a → hAt cd a k = H (a + k) := by
    intro k
    induction k with
    | zero => intro _; rw [Nat.add_zero, p2]; rfl
    | succ k ih =>
      intro hk
      show hst (cd (a + k)) (hAt cd a k) = H (a + (k + 1))
      rw [ih (by omega), ← Nat.add_assoc, (p4 (a + k) (by omega) (by omega)).2]
  refine ⟨p1, fun k hk => ?_, ?_⟩
  · rw [e k (by omega)]; exact (p4 (a + k) (by omega) (by omega)).1
  · rw [e _ (Nat.le_refl _), show a + (b - a) = b by omega, p3]
/-- a run of code whose facts are below a bound -/
def RG (tb : Nat) (cd : Nat → Nat) (a b h h' : Nat) : Prop := RQ cd a b h h' ∧ ∀ s, a ≤ s → s < b → cd s < 100 → cd s < tb
theorem RG.nil (tb : Nat) (cd : Nat → Nat) (a h : Nat) : RG tb cd a a h h := ⟨RQ.nil cd a h, fun s h1 h2 => by omega⟩
theorem RG.one {tb : Nat} {cd : Nat → Nat} {a h : Nat} (ho : hok (cd a) h = true) (hb : cd a < 100 → cd a < tb) : RG tb cd a (a + 1) h (hst (cd a) h) :=
  ⟨RQ.one ho, fun s h1 h2 => by
    have : s = a := by omega
    subst this
    exact hb⟩
theorem RG.tr {tb : Nat} {cd : Nat → Nat} {a b c h h' h'' : Nat} (p : RG tb cd a b h h') (q : RG tb cd b c h' h'') : RG tb cd a c h h'' := ⟨p.1.tr q.1, fun s h1 h2 h3 => by
  by_cases e : s < b
  · exact p.2 s h1 e h3
  · exact q.2 s (by omega) h2 h3⟩
theorem RG.cg {tb : Nat} {cd cd' : Nat → Nat} {a b h h' : Nat} (p : RG tb cd a b h h') (e : ∀ s, a ≤ s → s < b → cd' s = cd s) : RG tb cd' a b h h' := ⟨p.1.cg e, fun s h1 h2 => by rw [e s h1 h2]; exact p.2 s h1 h2⟩
theorem RG.wf {tb : Nat} {cd : Nat → Nat} {a b : Nat} (p : RG tb cd a b 0 1) : wfE cd a b := p.1.wf
/-- one step of code more, as told -/
def sT (T : Nat → Nat) (c : Nat) : Nat → Nat := updA (updA T (150 + T 7) c) 7 (T 7 + 1)
theorem sT_7 (T : Nat → Nat) (c : Nat) : sT T c 7 = T 7 + 1 := updA_same _ _ _
theorem sT_at {T : Nat → Nat} {c : Nat} : cT (sT T c) (T 7) = c := by
  unfold cT sT
  rw [updA_ne _ _ (by omega), updA_same]
theorem sT_ne {T : Nat → Nat} {c j : Nat} (h7 : j ≠ 7) (h : j ≠ 150 + T 7) : sT T c j = T j := by
  unfold sT
  rw [updA_ne _ _ h7, updA_ne _ _ h]
theorem sT_lo {T : Nat → Nat} {c s : Nat} (h : s < T 7) : cT (sT T c) s = cT T s := sT_ne (by omega) (by omega)
/-- the code, as the class has it -/
def CK (I : Nat → Nat → Int32) (la off : Nat) (T : Nat → Nat) : Prop := I la 13 = nI (off + T 7) ∧ ∀ j, j < T 7 → I (la + 7) (off + j) = nI (cc (cT T j))
/-- the class leaves all but its own place, its code and the code's size -/
def KG (la : Nat) (I I' : Nat → Nat → Int32) : Prop := ∀ a, a ≤ 960 → I la 13 = nI a → ∃ b, b ≤ 960 ∧ a ≤ b ∧ I' la 13 = nI b ∧ ∀ j, j < a → I' (la + 7) j = I (la + 7) j
def CF3 (la : Nat) (I I' : Nat → Nat → Int32) : Prop := (∀ x, x ≠ 282 → x ≠ la → x ≠ la + 7 → I' x = I x) ∧ (∀ k, k ≠ 13 → I' la k = I la k) ∧ KG la I I'
section Code
variable {σ : Sg} {I I' J J' I1 I2 I3 Ja : Nat → Nat → Int32} {L L' M M' L1 L2 : Nat → Nat → Int64} {X : Nat → Nat} {n m i la off t1 t2 fl pl : Nat} {T T' : Nat → Nat}
theorem CF3.rf : CF3 la I I := ⟨fun _ _ _ _ => rfl, fun _ _ => rfl, fun a h e => ⟨a, h, Nat.le_refl _, e, fun _ _ => rfl⟩⟩
theorem CF3.tr (h : CF3 la I I1) (g : CF3 la I1 I2) : CF3 la I I2 := ⟨fun x a b c => (g.1 x a b c).trans (h.1 x a b c), fun k a => (g.2.1 k a).trans (h.2.1 k a), fun a ha e => by
  obtain ⟨b, hb, ab, e1, k1⟩ := h.2.2 a ha e
  obtain ⟨c, hc, bc, e2, k2⟩ := g.2.2 b hb e1
  exact ⟨c, hc, Nat.le_trans ab bc, e2, fun j hj => (k2 j (by omega)).trans (k1 j hj)⟩⟩
theorem CF2.c3 (h : CF2 I I') (hla : isLa la) : CF3 la I I' := ⟨fun x a _ _ => h x a, fun k _ => by rw [h la (by rcases hla with rfl | rfl <;> omega)], fun a ha e => ⟨a, ha, Nat.le_refl _, by rw [h la (by rcases hla with rfl | rfl <;> omega)]; exact e, fun j _ => by rw [h (la + 7) (by rcases hla with rfl | rfl <;> omega)]⟩⟩
theorem CK.cf (h : CK I la off T) (hla : isLa la) (f : CF2 I I') : CK I' la off T := by
  unfold CK
  rw [f la (by rcases hla with rfl | rfl <;> omega), f (la + 7) (by rcases hla with rfl | rfl <;> omega)]
  exact h
theorem CN.c3 (h : CN I la t1 t2) (hla : isLa la) (f : CF3 la I I') : CN I' la t1 t2 := by
  unfold CN
  rw [f.2.1 1 (by omega), f.2.1 2 (by omega), f.1 (la + 2) (by rcases hla with rfl | rfl <;> omega) (by omega) (by omega)]
  exact h
theorem PCk.c3 (h : PCk I X n m i) (hla : isLa la) (f : CF3 la I I') (f5 : I' 282 = I 282) : PCk I' X n m i := by
  have e : ∀ x, x < 108 → I' x = I x := fun x hx => f.1 x (by omega) (by rcases hla with rfl | rfl <;> omega) (by rcases hla with rfl | rfl <;> omega)
  refine ⟨⟨h.1.1, by rw [f5]; exact h.1.2⟩, h.2.1, ⟨by rw [e 103 (by omega)]; exact h.2.2.1.1, fun j hj => by rw [e 104 (by omega), e 105 (by omega), e 106 (by omega)]; exact h.2.2.1.2 j hj⟩, h.2.2.2.1, h.2.2.2.2.1, by rw [f5]; exact h.2.2.2.2.2.1, h.2.2.2.2.2.2⟩
/-- the class emits -/
theorem emit_ok (h : CK I la off T) (hla : isLa la) (hb : off + T 7 < 960) {v : Int32} {c : Nat} (hv : v = nI (cc c)) : ∃ I', mX1_emit la v (hk σ I L) = some (hk σ I' L) ∧ CK I' la off (sT T c) ∧ CF3 la I I' ∧ I' 282 = I 282 := by
  have sh : SH (gN σ) la = (2, 20) ∧ SH (gN σ) (la + 7) = (50, 960) ∧ RF σ la 12 = la + 7 := by rcases hla with rfl | rfl <;> exact ⟨rfl, rfl, rfl⟩
  have sl : (hpS (hk σ I L) la).1 = 2 := by rw [hpS_hk, sh.1]
  refine ⟨rowUp (rowUp I (la + 7) (updA (I (la + 7)) (off + T 7) v)) la (updA (I la) 13 (nI (off + T 7 + 1))), ?_, ⟨?_, fun j hj => ?_⟩, ⟨fun x a b c => ?_, fun k hk' => ?_, fun a ha e => ⟨off + T 7 + 1, by omega, ?_, by rw [rowUp_same, updA_same], fun j hj => ?_⟩⟩, ?_⟩
  · unfold mX1_emit
    rw [if_pos sl, gR_la hla, obind, sh.2.2, gI_la hla, obind, h.1, put_nI (n := 960) (by rw [hpS_hk]; exact sh.2.1) (by omega) hb, obind, setI_hk, gI_la hla, obind, rowUp_ne _ _ (by omega), h.1, sI_ok (by rw [hpS_hk, sh.1]), obind, setI_hk, nI_1, hpI_hk', hpI_hk', rowUp_ne _ _ (by omega)]
  · rw [rowUp_same, updA_same, sT_7, Nat.add_assoc]
  · rw [sT_7] at hj
    rw [rowUp_ne _ _ (by omega), rowUp_same, updA_at]
    by_cases e : j = T 7
    · subst e; rw [if_pos rfl, sT_at, hv]
    · rw [if_neg (by omega), h.2 j (by omega), sT_lo (by omega)]
  · rw [rowUp_ne _ _ b, rowUp_ne _ _ c]
  · rw [rowUp_same, updA_ne _ _ hk']
  · have := (nI_eq (a := a) (b := off + T 7) (by omega) (by omega)).mp (e.symm.trans h.1)
    omega
  · have := (nI_eq (a := a) (b := off + T 7) (by omega) (by omega)).mp (e.symm.trans h.1)
    rw [rowUp_ne _ _ (by omega), rowUp_same, updA_ne _ _ (by omega)]
  · rw [rowUp_ne _ _ (by rcases hla with rfl | rfl <;> omega), rowUp_ne _ _ (by rcases hla with rfl | rfl <;> omega)]
end Code
