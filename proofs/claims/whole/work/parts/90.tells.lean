section Tells
variable {σ : Sg} {I I' J I1 I2 I3 Ja : Nat → Nat → Int32} {L L' L1 L2 : Nat → Nat → Int64} {X : Nat → Nat} {n b : Nat}
theorem gMI (k : Nat) : gI 12 k 433 (hk σ I L) = some (I 433 k) := gI_ok s433
theorem gML (k : Nat) : gL 12 k 433 (hk σ I L) = some (L 433 k) := gL_ok s433
theorem rs_inj : ∀ w, w < 11 → ∀ w', w' < 11 → rsW.getD w [] = rsW.getD w' [] → w = w' := by decide
theorem isWord_bad {w : Nat} (h17 : I 433 17 ≠ 0) : mX12_isWord 433 w (hk σ I L) = some (bI false) := by
  unfold mX12_isWord
  rw [if_pos s433, gMI, obind, if_neg h17]; rfl
theorem isSign_bad {c : Int32} (h17 : I 433 17 ≠ 0) : mX12_isSign 433 c (hk σ I L) = some (bI false) := by
  unfold mX12_isSign
  rw [if_pos s433, gMI, obind, if_neg h17]; rfl
theorem isWord_ok {w : Nat} (h : MT I L X n b) (h17 : I 433 17 = 0) (hw : w < 11) : mX12_isWord 433 (12 + w) (hk σ I L) = some (bI (decide (ck X n b = 256 + w))) := by
  unfold mX12_isWord
  rw [if_pos s433, gMI, obind, if_pos h17, gMI, obind, h.2.2.1]
  have no : ∀ {t : Nat}, mtk X n b = t → t < 100 → t ≠ 2 → (∃ c, ck X n b = c ∧ c < 256) → (if nI (mtk X n b) = (2 : Int32) then (gL 12 21 433 (hk σ I L)).bind fun v3 => (mX12_spelled (12 + w)).bind fun v4 => if lg_cmp v3 v4 = 0 then some (1 : Int32) else some (0 : Int32) else some (0 : Int32)) = some (bI (decide (ck X n b = 256 + w))) := by
    rintro t e ht h2 ⟨c, e2, hc⟩
    rw [e, e2, if_neg (show ¬ nI t = (2 : Int32) by rw [show (2 : Int32) = nI 2 from rfl, nI_eq' (by omega) (by omega)]; exact h2), decide_eq_false (by omega)]; rfl
  rcases tkc_all X n b with ⟨_, e1, e2⟩ | ⟨_, e1, e2⟩ | ⟨w', _, hw', e1, e2, e3⟩ | ⟨l, _, hl, e1, e2, e3, e4, e5⟩ | ⟨_, e1, e2, e3, e4⟩ | ⟨_, e1, e2, e3⟩
  · exact no e2 (by omega) (by omega) ⟨_, e1, by omega⟩
  · exact no e2 (by omega) (by omega) ⟨_, e1, by omega⟩
  · rw [e2, if_pos (show nI 2 = (2 : Int32) from rfl), gML, obind, spell_ok hw, obind, h.2.2.2.2, e3, e1]
    have b1 := wrd_l (rs_wrd w hw)
    have b2 := wrd_l (rs_wrd w' hw')
    by_cases q : w' = w
    · subst q; rw [if_pos (by rw [lg_cmp0]), decide_eq_true rfl]; rfl
    · rw [if_neg (fun z => q (rs_inj w' hw' w hw (((pk_iff (rs_wrd w' hw') (rs_wrd w hw)).2).mp ((lN_eq' (by omega) (by omega)).mp ((lg_cmp0 _ _).mp z))))), decide_eq_false (by omega)]; rfl
  · rw [e2, if_pos (show nI 2 = (2 : Int32) from rfl), gML, obind, spell_ok hw, obind, h.2.2.2.2, e3, e1]
    have b1 := wrd_l (rs_wrd w hw)
    have b2 := wrd_l hl
    rw [if_neg (fun z => e5 w hw (((pk_iff hl (rs_wrd w hw)).2).mp ((lN_eq' (by omega) (by omega)).mp ((lg_cmp0 _ _).mp z)))), decide_eq_false (by omega)]; rfl
  · exact no e2 (by omega) (by omega) ⟨_, e1, by omega⟩
  · exact no e2 (by omega) (by omega) ⟨_, rfl, by have := mrk_c e1; omega⟩
theorem isSign_ok {c : Nat} (h : MT I L X n b) (h17 : I 433 17 = 0) (hc : mrk c = true) : mX12_isSign 433 (nI c) (hk σ I L) = some (bI (decide (ck X n b = c))) := by
  have hc' := mrk_c hc
  unfold mX12_isSign
  rw [if_pos s433, gMI, obind, if_pos h17, gMI, obind, h.2.2.1]
  have no : ∀ {t : Nat}, mtk X n b = t → t < 100 → t ≠ 4 → ck X n b ≠ c → (if nI (mtk X n b) = (4 : Int32) then (gI 12 15 433 (hk σ I L)).bind fun v3 => if v3 = nI c then some (1 : Int32) else some (0 : Int32) else some (0 : Int32)) = some (bI (decide (ck X n b = c))) := by
    intro t e ht h2 hn
    rw [e, if_neg (show ¬ nI t = (4 : Int32) by rw [show (4 : Int32) = nI 4 from rfl, nI_eq' (by omega) (by omega)]; exact h2), decide_eq_false hn]; rfl
  rcases tkc_all X n b with ⟨_, e1, e2⟩ | ⟨_, e1, e2⟩ | ⟨w', _, hw', e1, e2, e3⟩ | ⟨l, _, hl, e1, e2, e3, e4, e5⟩ | ⟨_, e1, e2, e3, e4⟩ | ⟨_, e1, e2, e3⟩
  · exact no e2 (by omega) (by omega) (by omega)
  · exact no e2 (by omega) (by omega) (by omega)
  · exact no e2 (by omega) (by omega) (by omega)
  · exact no e2 (by omega) (by omega) (by omega)
  · exact no e2 (by omega) (by omega) (by omega)
  · have := mrk_c e1
    rw [e2, if_pos (show nI 4 = (4 : Int32) from rfl), gMI, obind, h.2.2.2.1, e3, c_eqd (by omega) (by omega)]
    by_cases q : ck X n b = c
    · rw [if_pos q, decide_eq_true q]; rfl
    · rw [if_neg q, decide_eq_false q]; rfl
theorem isName_ok (h : MT I L X n b) (h17 : I 433 17 = 0) : mX12_isName 433 (hk σ I L) = some (bI (decide (ck X n b = 2))) := by
  have hW : ∀ w, w < 11 → mX12_isWord 433 (12 + w) (hk σ I L) = some (bI (decide (ck X n b = 256 + w))) := fun w hw => isWord_ok h h17 hw
  unfold mX12_isName
  rw [if_pos s433, gMI, obind, h.2.2.1]
  rw [show mX12_isWord 433 12 (hk σ I L) = _ from hW 0 (by omega), show mX12_isWord 433 13 (hk σ I L) = _ from hW 1 (by omega), show mX12_isWord 433 14 (hk σ I L) = _ from hW 2 (by omega), show mX12_isWord 433 15 (hk σ I L) = _ from hW 3 (by omega), show mX12_isWord 433 16 (hk σ I L) = _ from hW 4 (by omega), show mX12_isWord 433 17 (hk σ I L) = _ from hW 5 (by omega), show mX12_isWord 433 18 (hk σ I L) = _ from hW 6 (by omega), show mX12_isWord 433 19 (hk σ I L) = _ from hW 7 (by omega), show mX12_isWord 433 20 (hk σ I L) = _ from hW 8 (by omega), show mX12_isWord 433 21 (hk σ I L) = _ from hW 9 (by omega), show mX12_isWord 433 22 (hk σ I L) = _ from hW 10 (by omega)]
  have no : ∀ {t : Nat} (A : Option Int32), mtk X n b = t → t < 100 → t ≠ 2 → ck X n b ≠ 2 → (if nI (mtk X n b) = (2 : Int32) then A else some (0 : Int32)) = some (bI (decide (ck X n b = 2))) := by
    intro t A e ht h2 hn
    rw [e, if_neg (show ¬ nI t = (2 : Int32) by rw [show (2 : Int32) = nI 2 from rfl, nI_eq' (by omega) (by omega)]; exact h2), decide_eq_false hn]; rfl
  rcases tkc_all X n b with ⟨_, e1, e2⟩ | ⟨_, e1, e2⟩ | ⟨w', _, hw', e1, e2, e3⟩ | ⟨l, _, hl, e1, e2, e3, e4, e5⟩ | ⟨_, e1, e2, e3, e4⟩ | ⟨_, e1, e2, e3⟩
  · exact no _ e2 (by omega) (by omega) (by omega)
  · exact no _ e2 (by omega) (by omega) (by omega)
  · rw [e1, e2]
    rcases (show w' = 0 ∨ w' = 1 ∨ w' = 2 ∨ w' = 3 ∨ w' = 4 ∨ w' = 5 ∨ w' = 6 ∨ w' = 7 ∨ w' = 8 ∨ w' = 9 ∨ w' = 10 by omega) with rfl | rfl | rfl | rfl | rfl | rfl | rfl | rfl | rfl | rfl | rfl <;> rfl
  · rw [e1, e2]; rfl
  · exact no _ e2 (by omega) (by omega) (by omega)
  · exact no _ e2 (by omega) (by omega) (by have := mrk_c e1; omega)
end Tells
