def CF2 (I I' : Nat → Nat → Int32) : Prop := ∀ x, x ≠ 282 → I' x = I x
def CN (I : Nat → Nat → Int32) (la t1 t2 : Nat) (W : Nat → List Nat) : Prop := t1 ≤ 8 ∧ t2 ≤ 5 ∧ I la 1 = nI t1 ∧ (W 13 = [] → I la 2 = nI t2) ∧ (∀ f, f < t1 → wrd (W f) ∧ I (la + 2) f = nI (pk5 (W f))) ∧ (W 13 = [] → ∀ k, k < t2 → wrd (W (8 + k)) ∧ I (la + 2) (8 + k) = nI (pk5 (W (8 + k))))
def MN (J : Nat → Nat → Int32) (M : Nat → Nat → Int64) (t1 t2 : Nat) (W : Nat → List Nat) : Prop := t1 ≤ 8 ∧ t2 ≤ 5 ∧ J 435 1 = nI t1 ∧ (W 13 = [] → J 435 2 = nI t2) ∧ (∀ f, f < t1 → wrd (W f) ∧ M 437 f = lN (pk27 (W f))) ∧ (W 13 = [] → ∀ k, k < t2 → wrd (W (8 + k)) ∧ M 437 (8 + k) = lN (pk27 (W (8 + k))))
def rTd (J : Nat → Nat → Int32) (T : Nat → Nat) : Prop := ∀ j, j < 640 → J 435 j = nI (T j)
/-- what goes on once the model is wrong -/
def MB (J : Nat → Nat → Int32) (fl pl : Nat) : Prop := MFl J fl pl ∧ ∃ T, rTd J T ∧ T 1 ≤ 8 ∧ T 2 ≤ 5 ∧ T 3 ≤ 6 ∧ T 4 ≤ 6 ∧ T 6 ≤ 40 ∧ (∃ t, t < 100 ∧ J 433 14 = nI t) ∧ T 51 < 256 ∧ T 52 < 256 ∧ T 53 < 256 ∧ T 54 < 256 ∧ T 55 < 256
def oI (o : Option Nat) : Int32 := match o with
  | some i => nI i
  | none => -1
section Names
variable {σ : Sg} {I I' J J' I1 I2 I3 Ja : Nat → Nat → Int32} {L L' M M' L1 L2 : Nat → Nat → Int64} {X : Nat → Nat} {n m i la t1 t2 : Nat} {W : Nat → List Nat}
theorem CF2.rf : CF2 I I := fun _ _ => rfl
theorem CF2.tr (h : CF2 I I1) (g : CF2 I1 I2) : CF2 I I2 := fun x hx => (g x hx).trans (h x hx)
theorem CF2.up {u : Nat → Int32} : CF2 I (rowUp I 282 u) := fun x hx => rowUp_ne _ _ hx
theorem CN.cf (h : CN I la t1 t2 W) (hla : isLa la) (f : CF2 I I') : CN I' la t1 t2 W := by
  have h1 := f la (by rcases hla with rfl | rfl <;> omega)
  have h2 := f (la + 2) (by rcases hla with rfl | rfl <;> omega)
  unfold CN
  rw [h1, h2]
  exact h
theorem MN.mf (h : MN J M t1 t2 W) (f : MF2 J M J' M') : MN J' M' t1 t2 W := by
  unfold MN
  rw [f.2.1, f.2.2.1]
  exact h
theorem la_sh {la : Nat} (h : isLa la) (g : Nat) : SH g la = (2, 20) ∧ SH g (la + 2) = (50, 13) := by
  rcases h with rfl | rfl <;> exact ⟨rfl, rfl⟩
theorem ldI_r {a k j : Nat} (hs : SH (gN σ) a = (50, k)) (hj : j < k) (hk' : k < 2147483648) : ldI a (nI j) (hk σ I L) = some (I a j) := by rw [ldI_ok (n := k) (by rw [hpS_hk]; exact hs) hj hk', hpI_hk]
theorem cfact_ok (h : CN I la t1 t2 W) (hla : isLa la) {l : List Nat} (hl : wrd l) : mX1_factNamed la (nI (pk5 l)) (hk σ I L) = some (oI (fstB (fun f => decide (W f = l)) t1)) := by
  obtain ⟨h8, h5, c1, c2, h1, h2⟩ := id h
  have sh := la_sh hla (gN σ)
  unfold mX1_factNamed mX1_factNamed_l2
  rw [if_pos (by rw [hpS_hk, sh.1])]
  have := lp_first (f := fun s : Int32 => mX1_factNamed_l2f la (nI (pk5 l)) (hk σ I L) s) t1 (fun f => nI f) (fun f => decide (W f = l)) (fun f => nI f) (-1 : Int32) (fun f hf hp => ?_) (fun f hf hp => ?_) ?_
  · refine this.trans ?_
    unfold oI
    rfl
  · obtain ⟨a, b⟩ := h1 f hf
    have := wrd_lt a
    have := wrd_lt hl
    show mX1_factNamed_l2f la (nI (pk5 l)) (hk σ I L) (nI f) = _
    unfold mX1_factNamed_l2f
    rw [gI_la hla, obind, c1, c_lt hf (by omega), gR_la hla, obind, RF_la_7 σ hla, aLen_r sh.2, obind, c_lt (by omega) (by omega), obind, ldI_r sh.2 (by omega) (by omega), obind, b, c_eqd (by omega) (by omega), if_neg (fun q => (of_decide_eq_false hp) (((pk_iff a hl).1).mp q)), nI_1]
  · obtain ⟨a, b⟩ := h1 f hf
    show mX1_factNamed_l2f la (nI (pk5 l)) (hk σ I L) (nI f) = _
    unfold mX1_factNamed_l2f
    rw [gI_la hla, obind, c1, c_lt hf (by omega), gR_la hla, obind, RF_la_7 σ hla, aLen_r sh.2, obind, c_lt (by omega) (by omega), obind, ldI_r sh.2 (by omega) (by omega), obind, b, of_decide_eq_true hp, if_pos rfl, xts]
  · show mX1_factNamed_l2f la (nI (pk5 l)) (hk σ I L) (nI t1) = _
    unfold mX1_factNamed_l2f
    rw [gI_la hla, obind, c1, c_nlt (Nat.le_refl _) (by omega), xts]
theorem ccount_ok (hW : W 13 = []) (h : CN I la t1 t2 W) (hla : isLa la) {l : List Nat} (hl : wrd l) : mX1_countNamed la (nI (pk5 l)) (hk σ I L) = some (oI (fstB (fun k => decide (W (8 + k) = l)) t2)) := by
  obtain ⟨h8, h5, c1, c2, h1, h2⟩ := id h
  have c2 := c2 hW
  have h2 := h2 hW
  have sh := la_sh hla (gN σ)
  unfold mX1_countNamed mX1_countNamed_l3
  rw [if_pos (by rw [hpS_hk, sh.1])]
  have := lp_first (f := fun s : Int32 => mX1_countNamed_l3f la (nI (pk5 l)) (hk σ I L) s) t2 (fun k => nI (8 + k)) (fun k => decide (W (8 + k) = l)) (fun k => nI k) (-1 : Int32) (fun k hk' hp => ?_) (fun k hk' hp => ?_) ?_
  · refine this.trans ?_
    unfold oI
    rfl
  · obtain ⟨a, b⟩ := h2 k hk'
    have := wrd_lt a
    have := wrd_lt hl
    show mX1_countNamed_l3f la (nI (pk5 l)) (hk σ I L) (nI (8 + k)) = _
    unfold mX1_countNamed_l3f
    rw [gI_la hla, obind, c2, show (8 : Int32) = nI 8 from rfl, nI_add, c_lt (by omega) (by omega), gR_la hla, obind, RF_la_7 σ hla, aLen_r sh.2, obind, c_lt (by omega) (by omega), obind, ldI_r sh.2 (by omega) (by omega), obind, b, c_eqd (by omega) (by omega), if_neg (fun q => (of_decide_eq_false hp) (((pk_iff a hl).1).mp q)), nI_1, Nat.add_assoc]
  · obtain ⟨a, b⟩ := h2 k hk'
    show mX1_countNamed_l3f la (nI (pk5 l)) (hk σ I L) (nI (8 + k)) = _
    unfold mX1_countNamed_l3f
    rw [gI_la hla, obind, c2, show (8 : Int32) = nI 8 from rfl, nI_add, c_lt (by omega) (by omega), gR_la hla, obind, RF_la_7 σ hla, aLen_r sh.2, obind, c_lt (by omega) (by omega), obind, ldI_r sh.2 (by omega) (by omega), obind, b, of_decide_eq_true hp, if_pos rfl, nI_sub (by omega), xts, Nat.add_sub_cancel_left]
  · show mX1_countNamed_l3f la (nI (pk5 l)) (hk σ I L) (nI (8 + t2)) = _
    unfold mX1_countNamed_l3f
    rw [gI_la hla, obind, c2, show (8 : Int32) = nI 8 from rfl, nI_add, c_nlt (Nat.le_refl _) (by omega), xts]
theorem mfact_ok (h : MN J M t1 t2 W) {l : List Nat} (hl : wrd l) (h21 : M 433 21 = lN (pk27 l)) : mX12_factNamed 433 (hk σ J M) = some (oI (fstB (fun f => decide (W f = l)) t1)) := by
  obtain ⟨h8, h5, c1, c2, h1, h2⟩ := id h
  have l1 : ldI 435 (1 : Int32) (hk σ J M) = some (nI t1) := by rw [show (1 : Int32) = nI 1 from rfl, ldI_ok (n := 640) rfl (by omega) (by omega), hpI_hk, c1]
  unfold mX12_factNamed mX12_factNamed_l2
  rw [if_pos s433]
  have := lp_first (f := fun s : Int32 => mX12_factNamed_l2f 433 (hk σ J M) s) t1 (fun f => nI f) (fun f => decide (W f = l)) (fun f => nI f) (-1 : Int32) (fun f hf hp => ?_) (fun f hf hp => ?_) ?_
  · refine this.trans ?_
    unfold oI
    rfl
  · obtain ⟨a, b⟩ := h1 f hf
    have := wrd_l a
    have := wrd_l hl
    show mX12_factNamed_l2f 433 (hk σ J M) (nI f) = _
    unfold mX12_factNamed_l2f
    rw [gM 1, RF_433_1, l1, obind, c_lt hf (by omega), gM 3, RF_433_3, ldL_ok (n := 13) rfl (by omega) (by omega), obind, hpL_hk'', b, gML, obind, h21, if_neg (fun q => (of_decide_eq_false hp) (((pk_iff a hl).2).mp ((lN_eq' (by omega) (by omega)).mp ((lg_cmp0 _ _).mp q)))), nI_1]
  · obtain ⟨a, b⟩ := h1 f hf
    show mX12_factNamed_l2f 433 (hk σ J M) (nI f) = _
    unfold mX12_factNamed_l2f
    rw [gM 1, RF_433_1, l1, obind, c_lt hf (by omega), gM 3, RF_433_3, ldL_ok (n := 13) rfl (by omega) (by omega), obind, hpL_hk'', b, gML, obind, h21, of_decide_eq_true hp, if_pos (by rw [lg_cmp0]), xts]
  · show mX12_factNamed_l2f 433 (hk σ J M) (nI t1) = _
    unfold mX12_factNamed_l2f
    rw [gM 1, RF_433_1, l1, obind, c_nlt (Nat.le_refl _) (by omega), xts]
theorem mcount_ok (hW : W 13 = []) (h : MN J M t1 t2 W) {l : List Nat} (hl : wrd l) (h21 : M 433 21 = lN (pk27 l)) : mX12_countNamed 433 (hk σ J M) = some (oI (fstB (fun k => decide (W (8 + k) = l)) t2)) := by
  obtain ⟨h8, h5, c1, c2, h1, h2⟩ := id h
  have c2 := c2 hW
  have h2 := h2 hW
  have l1 : ldI 435 (2 : Int32) (hk σ J M) = some (nI t2) := by rw [show (2 : Int32) = nI 2 from rfl, ldI_ok (n := 640) rfl (by omega) (by omega), hpI_hk, c2]
  unfold mX12_countNamed mX12_countNamed_l2
  rw [if_pos s433]
  have := lp_first (f := fun s : Int32 => mX12_countNamed_l2f 433 (hk σ J M) s) t2 (fun f => nI f) (fun k => decide (W (8 + k) = l)) (fun f => nI f) (-1 : Int32) (fun f hf hp => ?_) (fun f hf hp => ?_) ?_
  · refine this.trans ?_
    unfold oI
    rfl
  · obtain ⟨a, b⟩ := h2 f hf
    have := wrd_l a
    have := wrd_l hl
    show mX12_countNamed_l2f 433 (hk σ J M) (nI f) = _
    unfold mX12_countNamed_l2f
    rw [gM 1, RF_433_1, l1, obind, c_lt hf (by omega), gM 3, RF_433_3, show (8 : Int32) = nI 8 from rfl, nI_add, ldL_ok (n := 13) rfl (by omega) (by omega), obind, hpL_hk'', b, gML, obind, h21, if_neg (fun q => (of_decide_eq_false hp) (((pk_iff a hl).2).mp ((lN_eq' (by omega) (by omega)).mp ((lg_cmp0 _ _).mp q)))), nI_1]
  · obtain ⟨a, b⟩ := h2 f hf
    show mX12_countNamed_l2f 433 (hk σ J M) (nI f) = _
    unfold mX12_countNamed_l2f
    rw [gM 1, RF_433_1, l1, obind, c_lt hf (by omega), gM 3, RF_433_3, show (8 : Int32) = nI 8 from rfl, nI_add, ldL_ok (n := 13) rfl (by omega) (by omega), obind, hpL_hk'', b, gML, obind, h21, of_decide_eq_true hp, if_pos (by rw [lg_cmp0]), xts]
  · show mX12_countNamed_l2f 433 (hk σ J M) (nI t2) = _
    unfold mX12_countNamed_l2f
    rw [gM 1, RF_433_1, l1, obind, c_nlt (Nat.le_refl _) (by omega), xts]
end Names
