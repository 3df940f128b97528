/-! EXPR, read on both sides: what holds, and how the model goes on once it is wrong -/
def MX (J : Nat → Nat → Int32) (M : Nat → Nat → Int64) (J' : Nat → Nat → Int32) (M' : Nat → Nat → Int64) : Prop := MFr J M J' M' ∧ M' 437 = M 437 ∧ J' 433 22 = J 433 22
def PE (I J : Nat → Nat → Int32) (M : Nat → Nat → Int64) (X : Nat → Nat) (n m i la off : Nat) (W : Nat → List Nat) (t1 t2 : Nat) (T : Nat → Nat) (dp : Nat) : Prop :=
  PCk I X n m i ∧ PMk J M X n i ∧ CN I la t1 t2 W ∧ MN J M t1 t2 W ∧ rTd J T ∧ CK I la off T ∧ T 7 ≤ i ∧ J 433 16 = nI dp
def ER (σ τ : Sg) (I J : Nat → Nat → Int32) (L M : Nat → Nat → Int64) (X : Nat → Nat) (n m i la off : Nat) (W : Nat → List Nat) (t1 t2 : Nat) (T : Nat → Nat) (dp h0 : Nat) (cls : Option (Int32 × Hp)) (mdl : Option Hp) : Prop :=
  (∃ I' J' M' i' T', cls = some (1, hk σ I' L) ∧ mdl = some (hk τ J' M') ∧ PE I' J' M' X n m i' la off W t1 t2 T' dp ∧ i < i' ∧ T' 7 + i ≤ T 7 + i' ∧ (∀ j, j ≠ 7 → j < 150 + T 7 → T' j = T j) ∧ RG t1 (cT T') (T 7) (T' 7) h0 (h0 + 1) ∧ CF3 la I I' ∧ MX J M J' M') ∨
  (∃ fl pl I' J' M' T', cls = some (0, hk σ I' L) ∧ mdl = some (hk τ J' M') ∧ CFl I' fl pl ∧ CF3 la I I' ∧ MFl J' fl pl ∧ MX J M J' M' ∧ rTd J' T' ∧ ∀ j, j ≠ 7 → j < 150 → T' j = T j)
/-- the depth alone -/
def BF (J J' : Nat → Nat → Int32) : Prop := (∀ x, x ≠ 433 → J' x = J x) ∧ ∀ k, k ≠ 16 → J' 433 k = J 433 k
section Bad
variable {σ τ : Sg} {I I' J J' I1 I2 I3 Ja : Nat → Nat → Int32} {L L' M M' L1 L2 : Nat → Nat → Int64} {X : Nat → Nat} {n m i la off t1 t2 fl pl : Nat} {W : Nat → List Nat} {T T' : Nat → Nat}
theorem MX.rf : MX J M J M := ⟨MFr.rf, rfl, rfl⟩
theorem MX.tr (h : MX J M I1 L1) (g : MX I1 L1 I2 L2) : MX J M I2 L2 := ⟨h.1.tr g.1, g.2.1.trans h.2.1, g.2.2.trans h.2.2⟩
theorem MF2.x (h : MF2 J M J' M') : MX J M J' M' := ⟨h.1, h.2.2.1, h.2.2.2.2⟩
theorem BF.rf : BF J J := ⟨fun _ _ => rfl, fun _ _ => rfl⟩
theorem BF.tr (h : BF J I1) (g : BF I1 I2) : BF J I2 := ⟨fun x a => (g.1 x a).trans (h.1 x a), fun k a => (g.2 k a).trans (h.2 k a)⟩
theorem BF.up (v : Int32) : BF J (rowUp J 433 (updA (J 433) 16 v)) := ⟨fun x a => rowUp_ne _ _ a, fun k a => by rw [rowUp_same, updA_ne _ _ a]⟩
theorem MFl.bf (h : MFl J fl pl) (f : BF J J') : MFl J' fl pl := ⟨h.1, h.2.1, h.2.2.1, by rw [f.2 17 (by omega)]; exact h.2.2.2.1, by rw [f.2 18 (by omega)]; exact h.2.2.2.2⟩
theorem BF.x (f : BF J J') : MX J M J' M := ⟨⟨fun x a _ _ _ => ⟨f.1 x a, rfl⟩, fun k a b => f.2 k (by omega), fun _ _ => rfl, rfl, f.1 437 (by omega)⟩, rfl, f.2 22 (by omega)⟩
theorem rTd.bf (h : rTd J T) (f : BF J J') : rTd J' T := fun j hj => by rw [f.1 435 (by omega)]; exact h j hj
theorem rTd.mf (h : rTd J T) (f : MF2 J M J' M') : rTd J' T := fun j hj => by rw [f.2.1]; exact h j hj
theorem rTd.up {u : Nat → Int32} (h : rTd J T) : rTd (rowUp J 433 u) T := fun j hj => by rw [rowUp_ne _ _ (by omega)]; exact h j hj
theorem dep_ok (v : Int32) : sI 12 16 433 v (hk τ J M) = some (hk τ (rowUp J 433 (updA (J 433) 16 v)) M) := by rw [sI_ok s433, setI_hk, hpI_hk']
theorem gone_bad (h : MFl J fl pl) (N : Nat) : (mg_X12_both (N + 1)).2.2.1 433 (hk τ J M) = some (hk τ J M) := by
  show mX12_one_F (mg_X12_both N) 433 (hk τ J M) = _
  unfold mX12_one_F
  rw [if_pos s433, gMI, obind, if_neg h.ne]
theorem gboth_bad (h : MFl J fl pl) (N : Nat) : (mg_X12_both (N + 2)).1 433 (hk τ J M) = some (hk τ J M) := by
  show mX12_both_F (mg_X12_both (N + 1)) 433 (hk τ J M) = _
  unfold mX12_both_F mX12_both_l4
  rw [if_pos s433, gone_bad h, obind]
  refine lp_inr ?_
  show mX12_both_l4f (mg_X12_both (N + 1)) 433 (hk τ J M) = _
  unfold mX12_both_l4f
  rw [isSign_bad h.ne, obind, if_pos (show bI false = 0 from rfl), xts]
theorem geither_bad (h : MFl J fl pl) (N : Nat) : (mg_X12_both (N + 3)).2.1 433 (hk τ J M) = some (hk τ J M) := by
  show mX12_either_F (mg_X12_both (N + 2)) 433 (hk τ J M) = _
  unfold mX12_either_F mX12_either_l4
  rw [if_pos s433, gboth_bad h, obind]
  refine lp_inr ?_
  show mX12_either_l4f (mg_X12_both (N + 2)) 433 (hk τ J M) = _
  unfold mX12_either_l4f
  rw [isSign_bad h.ne, obind, if_pos (show bI false = 0 from rfl), xts]
theorem opens_bad (h : MFl J fl pl) : ∃ J', mX12_opens 433 (hk τ J M) = some (hk τ J' M) ∧ BF J J' := by
  refine ⟨_, ?_, BF.up (J 433 16 + 1)⟩
  have b13 : mX12_opens_b13 433 (hk τ J M) = some (hk τ (rowUp J 433 (updA (J 433) 16 (J 433 16 + 1))) M) := by
    unfold mX12_opens_b13
    rw [gMI, obind, dep_ok, obind, passes_bad (h.bf (BF.up _)), obind]
  unfold mX12_opens
  rw [if_pos s433, gMI, obind, wrong_bad h, obind, b13]
  by_cases q : J 433 16 = 5
  · rw [if_pos q]
  · rw [if_neg q]
theorem l51_bad (g : GTX12_both) (h : MFl J fl pl) (v x2 : Int32) : ∃ J', mX12_someOf_l51 g 433 v x2 (0 : Int32) (hk τ J M) = some (hk τ J' M) ∧ BF J J' := by
  refine ⟨_, ?_, BF.up (J 433 16 - 1)⟩
  unfold mX12_someOf_l51
  refine lp_inr ?_
  show mX12_someOf_l51f g 433 v x2 (0 : Int32) (hk τ J M) = _
  unfold mX12_someOf_l51f
  rw [if_pos rfl, isSign_bad h.ne, obind, must_bad h, obind, gMI, obind, dep_ok, obind, step_bad (h.bf (BF.up _)), obind, xts]
theorem b32_bad (g : GTX12_both) (h : MFl J fl pl) (v : Int32) : ∃ J', mX12_someOf_b32 g 433 v (hk τ J M) = some (hk τ J' M) ∧ BF J J' := by
  obtain ⟨J1, e1, f1⟩ := opens_bad (τ := τ) (M := M) h
  obtain ⟨J2, e2, f2⟩ := l51_bad (τ := τ) (M := M) g (h.bf f1) v 0
  refine ⟨J2, ?_, f1.tr f2⟩
  unfold mX12_someOf_b32 mX12_someOf_b50
  rw [e1, obind, gMI, obind, if_neg (h.bf f1).ne, e2]
/-- once wrong behind the number, the count goes on to its end -/
theorem some_bad1 (g : GTX12_both) (h : MFl J fl pl) (v : Int32) : ∃ J', ((mX12_isWord 433 22 (hk τ J M)).bind fun v3 => (mX12_must 433 v3 (hk τ J M)).bind fun h6 => (mX12_isSign 433 (40 : Int32) h6).bind fun v7 => if v7 = 0 then ((mX12_wrong 433 (1 : Int32) h6).bind fun h29 => mX12_someOf_b32 g 433 v h29) else (mX12_someOf_b32 g 433 v h6)) = some (hk τ J' M) ∧ BF J J' := by
  obtain ⟨J1, e1, f1⟩ := b32_bad (τ := τ) (M := M) g h v
  refine ⟨J1, ?_, f1⟩
  rw [isWord_bad h.ne, obind, must_bad h, obind, isSign_bad h.ne, obind, if_pos (show bI false = 0 from rfl), wrong_bad h, obind, e1]
theorem someb65_bad {N : Nat} (h : MFl J fl pl) (v x2 : Int32) : mX12_someOf_b65 (mg_X12_both (N + 3)) 433 v x2 (hk τ J M) = some (.inl (x2 + 1, 0, hk τ J M)) := by
  unfold mX12_someOf_b65
  rw [geither_bad h, obind, isSign_bad h.ne, obind, if_pos (show bI false = 0 from rfl)]
  rfl
/-- the class's and the model's loops once the expression failed -/
theorem orl_bad {N : Nat} (h : MFl J fl pl) : mX12_either_l4 (mg_X12_both N) 433 (hk τ J M) = some (hk τ J M) := by
  unfold mX12_either_l4
  refine lp_inr ?_
  show mX12_either_l4f (mg_X12_both N) 433 (hk τ J M) = _
  unfold mX12_either_l4f
  rw [isSign_bad h.ne, obind, if_pos (show bI false = 0 from rfl), xts]
theorem andl_bad {N : Nat} (h : MFl J fl pl) : mX12_both_l4 (mg_X12_both N) 433 (hk τ J M) = some (hk τ J M) := by
  unfold mX12_both_l4
  refine lp_inr ?_
  show mX12_both_l4f (mg_X12_both N) 433 (hk τ J M) = _
  unfold mX12_both_l4f
  rw [isSign_bad h.ne, obind, if_pos (show bI false = 0 from rfl), xts]
end Bad
