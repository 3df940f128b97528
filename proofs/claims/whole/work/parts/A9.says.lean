section SaysLine
variable {σ τ : Sg} {I I' J J' I1 I2 I3 Ja : Nat → Nat → Int32} {L L' M M' L1 L2 : Nat → Nat → Int64} {X : Nat → Nat} {n m i la off t1 t2 fl pl dp h0 N kk lim s : Nat} {W : Nat → List Nat} {T T' : Nat → Nat}
theorem saysRest_bad (h : MFl J fl pl) (a b c : Int32) : mX12_readSays_b60 433 a b c (hk τ J M) = some (hk τ J M) := by
  unfold mX12_readSays_b60
  rw [passes_bad h, obind, isSign_bad h.ne, obind, must_bad h, obind, gMI, obind, if_neg h.ne]
theorem says33_bad (h : MFl J fl pl) (hT : rTd J T) (h1 : J 435 1 = nI t1) (h8 : t1 ≤ 8) (h2 : J 435 2 = nI t2) (h5 : t2 ≤ 5) {k : Nat} (hk' : k < 5) (hS : T (51 + k) < 256) (b : Int32) : mX12_readSays_b33 433 (nI k) b (hk τ J M) = some (hk τ J M) := by
  have hh : ∃ c : Bool, mX12_has (nI (T (51 + k))) (0 : Int32) = some (bI c) := by
    unfold mX12_has
    by_cases q : (nI (T (51 + k)) >>> ((0 : Int32) &&& 31)) &&& (1 : Int32) = 1
    · exact ⟨true, by rw [if_pos q]; rfl⟩
    · exact ⟨false, by rw [if_neg q]; rfl⟩
  obtain ⟨c, hc⟩ := hh
  unfold mX12_readSays_b33
  rw [here_bad h h1 h8 h2 h5, b2s, gM 1, RF_433_1, show (51 : Int32) = nI 51 from rfl, nI_add, ld435 hT (by omega), obind, hc, obind, wrong_bad h, obind, saysRest_bad h]
  cases c <;> rfl
end SaysLine
