section MSuit
variable {σ σ' : Sg} {I I' J J' I1 I2 I3 Ja : Nat → Nat → Int32} {L L' M M' L1 L2 : Nat → Nat → Int64} {X : Nat → Nat} {n m i i2 la off t1 t2 fl pl dp h0 kk lim s k b j w r c v a : Nat} {W : Nat → List Nat} {T T' N : Nat → Nat} {P : Nat → Nat → Nat} {K : Nat → Bool} {Q : Nat → Nat → Nat}
/-- the model takes its text -/
theorem takes_ok (hn : n ≤ 480) (h10 : J 433 10 = nI n) (hX : ∀ i, i < n → X i < 256 ∧ J 442 i = nI (X i)) : ∃ J' M', mX12_takes 433 (hk σ J M) = some (hk σ J' M') ∧ PMk J' M' X n 0 ∧ J' 433 10 = 0 ∧ (∀ x, x ≠ 433 → J' x = J x) ∧ (∀ k, k < 10 ∨ 18 < k ∨ k = 16 → J' 433 k = J 433 k) ∧ (∀ x, x ≠ 433 → M' x = M x) ∧ ∀ k, k ≠ 21 → M' 433 k = M 433 k := by
  obtain ⟨J1, hJ1⟩ : ∃ J1, J1 = rowUp J 433 (updA (updA (updA (updA (updA (J 433) 11 (nI n)) 10 0) 12 0) 17 0) 18 (-1)) := ⟨_, rfl⟩
  have hTM : TM J1 X n := ⟨hn, by rw [hJ1, rowUp_same]; rfl, fun i hi => by rw [hJ1, rowUp_ne _ _ (by omega)]; exact hX i hi⟩
  obtain ⟨u, q, e, r1, r2, r3⟩ := next_ok (σ := σ) (L := M) hTM (Nat.zero_le n) (by rw [hJ1, rowUp_same]; rfl)
  have uk : ∀ k, k < 12 ∨ 15 < k → (rowUp J1 433 u) 433 k = J1 433 k := fun k hk' => by rw [rowUp_same]; exact r2 k (by omega) (by omega) (by omega) (by omega)
  refine ⟨rowUp J1 433 u, rowUp M 433 q, ?_, ⟨⟨hn, by rw [uk 11 (by omega)]; exact hTM.2.1, fun i hi => by rw [rowUp_ne _ _ (by omega)]; exact hTM.2.2 i hi⟩, r1, by rw [uk 17 (by omega), hJ1, rowUp_same]; rfl⟩, by rw [uk 10 (by omega), hJ1, rowUp_same]; rfl, fun x hx => by rw [rowUp_ne _ _ hx, hJ1, rowUp_ne _ _ hx], fun k hk' => ?_, fun x hx => rowUp_ne _ _ hx, fun k hk' => by rw [rowUp_same]; exact r3 k hk'⟩
  · unfold mX12_takes
    rw [if_pos s433, gMI, obind, h10, sI_ok s433, obind, setI_hk, hpI_hk', sI_ok s433, obind, setI_hk, hpI_hk', rowUp_two, rowUp_same, sI_ok s433, obind, setI_hk, hpI_hk', rowUp_two, rowUp_same, sI_ok s433, obind, setI_hk, hpI_hk', rowUp_two, rowUp_same, sI_ok s433, obind, setI_hk, hpI_hk', rowUp_two, rowUp_same, ← hJ1, e, obind]
  · rw [uk k (by omega), hJ1, rowUp_same, updA_ne _ _ (by omega), updA_ne _ _ (by omega), updA_ne _ _ (by omega), updA_ne _ _ (by omega), updA_ne _ _ (by omega)]
theorem ml6 {o : Int32 × Hp} (h : mX12_suit_l40 433 (hk σ (rowUp (rowUp J 435 (updA (fun i => if i < 640 then 0 else J 435 i) 5 300)) 433 (updA (J 433) 22 0)) M) = some o) : mX12_suit_l6 433 0 (hk σ J M) = some o := by
  have h0 : hk σ J M = hk σ (rowUp J 435 (fun i => if i < 0 then 0 else J 435 i)) M := by
    have : (fun i => if i < 0 then 0 else J 435 i) = J 435 := by funext i; exact if_neg (Nat.not_lt_zero _)
    rw [this, rowUp_id]
  rw [h0]
  unfold mX12_suit_l6
  refine lp_traj (f := fun s : Int32 × Hp => mX12_suit_l6f 433 s.1 s.2) 640 (fun k => (nI k, hk σ (rowUp J 435 (fun i => if i < k then 0 else J 435 i)) M)) o (fun k hk' => ?_) ?_
  · show mX12_suit_l6f 433 (nI k) (hk σ (rowUp J 435 (fun i => if i < k then 0 else J 435 i)) M) = _
    unfold mX12_suit_l6f
    rw [if_pos (show nI k < (640 : Int32) from nI_lt (b := 640) hk' (by omega)), gM 1, RF_433_1, st435 _ hk', obind, rowUp_two, rowUp_same, nI_1]
    have : updA (fun i => if i < k then 0 else J 435 i) k 0 = fun i => if i < k + 1 then 0 else J 435 i := by
      funext i
      rw [updA_at]
      by_cases q : i = k
      · rw [if_pos q, if_pos (by omega)]
      · rw [if_neg q]
        by_cases q2 : i < k
        · rw [if_pos q2, if_pos (by omega)]
        · rw [if_neg q2, if_neg (by omega)]
    rw [this]
  · show mX12_suit_l6f 433 (nI 640) (hk σ (rowUp J 435 (fun i => if i < 640 then 0 else J 435 i)) M) = _
    unfold mX12_suit_l6f
    rw [if_neg (show ¬ nI 640 < (640 : Int32) by decide), gM 1, RF_433_1, show (5 : Int32) = nI 5 from rfl, st435 _ (by omega), obind, rowUp_two, rowUp_same, sZ_ok s433 (Or.inl rfl), obind, setI_hk, hpI_hk', rowUp_ne (a := 435) (b := 433) _ _ (by omega), h, xts]
/-- the model begins a suit -/
theorem mbegin_ok (hn : n ≤ 480) (h10 : J 433 10 = nI n) (hX : ∀ i, i < n → X i < 256 ∧ J 442 i = nI (X i)) : ∃ J' M', (∀ o, mX12_suit_l40 433 (hk σ J' M') = some o → mX12_suit 433 (hk σ J M) = some o) ∧ PMk J' M' X n 0 ∧ (∀ j, j < 640 → J' 435 j = nI (T00 j)) ∧ J' 433 22 = 0 ∧ J' 433 10 = 0 ∧ (∀ x, x ≠ 433 → x ≠ 435 → J' x = J x) ∧ (∀ k, k < 10 ∨ 18 < k → k ≠ 22 → J' 433 k = J 433 k) ∧ (∀ x, x ≠ 433 → M' x = M x) ∧ ∀ k, k ≠ 21 → M' 433 k = M 433 k := by
  obtain ⟨J1, M1, e, p, f10, fx, fk, mx, mk⟩ := takes_ok (σ := σ) (M := M) hn h10 hX
  obtain ⟨J2, hJ2⟩ : ∃ J2, J2 = rowUp (rowUp J1 435 (updA (fun i => if i < 640 then 0 else J1 435 i) 5 300)) 433 (updA (J1 433) 22 0) := ⟨_, rfl⟩
  have k2 : ∀ k, k ≠ 22 → J2 433 k = J1 433 k := fun k hk' => by rw [hJ2, rowUp_same, updA_ne _ _ hk']
  have x2 : ∀ x, x ≠ 433 → x ≠ 435 → J2 x = J1 x := fun x a b => by rw [hJ2, rowUp_ne _ _ a, rowUp_ne _ _ b]
  refine ⟨J2, M1, fun o ho => ?_, ⟨⟨p.1.1, by rw [k2 11 (by omega)]; exact p.1.2.1, fun i hi => by rw [x2 442 (by omega) (by omega)]; exact p.1.2.2 i hi⟩, ⟨by rw [k2 12 (by omega)]; exact p.2.1.1, by rw [k2 13 (by omega)]; exact p.2.1.2.1, by rw [k2 14 (by omega)]; exact p.2.1.2.2.1, by rw [k2 15 (by omega)]; exact p.2.1.2.2.2.1, p.2.1.2.2.2.2⟩, by rw [k2 17 (by omega)]; exact p.2.2⟩, fun j hj => ?_, by rw [hJ2, rowUp_same, updA_same], by rw [k2 10 (by omega)]; exact f10, fun x a b => by rw [x2 x a b, fx x a], fun k a b => by rw [k2 k b, fk k (by omega)], mx, mk⟩
  · unfold mX12_suit
    rw [if_pos s433, e, obind]
    exact ml6 (by rw [← hJ2]; exact ho)
  · rw [hJ2, rowUp_ne _ _ (by omega), rowUp_same, updA_at]
    unfold T00
    by_cases q : j = 5
    · rw [if_pos q, if_pos q]; rfl
    · rw [if_neg q, if_neg q, if_pos hj]; rfl
theorem ml99 {o : Int32 × Hp} (h : ((mX12_begins 433 (hk σ J (rowUp M 436 (fun i => if i < 13 then M 437 i else M 436 i)))).bind fun h10 => (gR 12 0 433 h10).bind fun v11 => (ldI v11 (0 : Int32) h10).bind fun v12 => some (v12, h10)) = some o) : mX12_suit_l99 433 0 (hk σ J M) = some o := by
  have h0 : hk σ J M = hk σ J (rowUp M 436 (fun i => if i < 0 then M 437 i else M 436 i)) := by
    have : (fun i => if i < 0 then M 437 i else M 436 i) = M 436 := by funext i; exact if_neg (Nat.not_lt_zero _)
    rw [this, rowUp_id]
  rw [h0]
  unfold mX12_suit_l99
  refine lp_traj (f := fun s : Int32 × Hp => mX12_suit_l99f 433 s.1 s.2) 13 (fun k => (nI k, hk σ J (rowUp M 436 (fun i => if i < k then M 437 i else M 436 i)))) o (fun k hk' => ?_) ?_
  · show mX12_suit_l99f 433 (nI k) (hk σ J (rowUp M 436 (fun i => if i < k then M 437 i else M 436 i))) = _
    unfold mX12_suit_l99f
    rw [if_pos (show nI k < (13 : Int32) from nI_lt (b := 13) hk' (by omega)), gM 2, RF_433_2, gM 3, RF_433_3, ldL_ok (n := 13) rfl hk' (by omega), obind, stL_ok (n := 13) rfl hk' (by omega), obind, setL_hk, hpL_hk'', hpL_hk'', rowUp_two, rowUp_same, rowUp_ne (a := 436) (b := 437) _ _ (by omega), nI_1]
    have : updA (fun i => if i < k then M 437 i else M 436 i) k (M 437 k) = fun i => if i < k + 1 then M 437 i else M 436 i := by
      funext i
      rw [updA_at]
      by_cases q : i = k
      · rw [if_pos q, if_pos (by omega), q]
      · rw [if_neg q]
        by_cases q2 : i < k
        · rw [if_pos q2, if_pos (by omega)]
        · rw [if_neg q2, if_neg (by omega)]
    rw [this]
  · show mX12_suit_l99f 433 (nI 13) (hk σ J (rowUp M 436 (fun i => if i < 13 then M 437 i else M 436 i))) = _
    unfold mX12_suit_l99f
    rw [if_neg (show ¬ nI 13 < (13 : Int32) by decide), h, xts]
theorem ml72 {o : Int32 × Hp} (h : mX12_suit_l99 433 0 (hk σ (rowUp J 434 (fun i => if i < 640 then J 435 i else J 434 i)) M) = some o) : mX12_suit_l72 433 0 (hk σ J M) = some o := by
  have h0 : hk σ J M = hk σ (rowUp J 434 (fun i => if i < 0 then J 435 i else J 434 i)) M := by
    have : (fun i => if i < 0 then J 435 i else J 434 i) = J 434 := by funext i; exact if_neg (Nat.not_lt_zero _)
    rw [this, rowUp_id]
  rw [h0]
  unfold mX12_suit_l72
  refine lp_traj (f := fun s : Int32 × Hp => mX12_suit_l72f 433 s.1 s.2) 640 (fun k => (nI k, hk σ (rowUp J 434 (fun i => if i < k then J 435 i else J 434 i)) M)) o (fun k hk' => ?_) ?_
  · show mX12_suit_l72f 433 (nI k) (hk σ (rowUp J 434 (fun i => if i < k then J 435 i else J 434 i)) M) = _
    unfold mX12_suit_l72f
    rw [if_pos (show nI k < (640 : Int32) from nI_lt (b := 640) hk' (by omega)), g434, gM 1, RF_433_1, ldI_ok (n := 640) rfl hk' (by omega), obind, hpI_hk, rowUp_ne (a := 434) (b := 435) _ _ (by omega), stI_ok (n := 640) rfl hk' (by omega), obind, setI_hk, hpI_hk', rowUp_two, rowUp_same, nI_1]
    have : updA (fun i => if i < k then J 435 i else J 434 i) k (J 435 k) = fun i => if i < k + 1 then J 435 i else J 434 i := by
      funext i
      rw [updA_at]
      by_cases q : i = k
      · rw [if_pos q, if_pos (by omega), q]
      · rw [if_neg q]
        by_cases q2 : i < k
        · rw [if_pos q2, if_pos (by omega)]
        · rw [if_neg q2, if_neg (by omega)]
    rw [this]
  · show mX12_suit_l72f 433 (nI 640) (hk σ (rowUp J 434 (fun i => if i < 640 then J 435 i else J 434 i)) M) = _
    unfold mX12_suit_l72f
    rw [if_neg (show ¬ nI 640 < (640 : Int32) by decide), h, xts]
theorem isRead_ok : ∃ J', mX12_isRead 433 (hk σ J M) = some (bI (decide (J 433 17 = 0)), hk σ J' M) ∧ J' 433 19 = J 433 17 ∧ J' 433 20 = (if J 433 17 = 0 then -1 else J 433 18) ∧ (∀ x, x ≠ 433 → J' x = J x) ∧ ∀ k, k ≠ 19 → k ≠ 20 → J' 433 k = J 433 k := by
  refine ⟨rowUp J 433 (updA (updA (J 433) 19 (J 433 17)) 20 (if J 433 17 = 0 then -1 else J 433 18)), ?_, by rw [rowUp_same, updA_ne _ _ (by omega), updA_same], by rw [rowUp_same, updA_same], fun x hx => rowUp_ne _ _ hx, fun k a b => by rw [rowUp_same, updA_ne _ _ b, updA_ne _ _ a]⟩
  have b24 : ∀ t, mX12_isRead_b24 433 433 t (hk σ (rowUp J 433 (updA (J 433) 19 (J 433 17))) M) = some (bI (decide (J 433 17 = 0)), hk σ (rowUp J 433 (updA (updA (J 433) 19 (J 433 17)) 20 t)) M) := fun t => by
    unfold mX12_isRead_b24
    rw [sI_ok s433, obind, setI_hk, hpI_hk', rowUp_two, rowUp_same, gMI, obind, rowUp_same, updA_ne _ _ (by omega), updA_ne _ _ (by omega)]
    by_cases q : J 433 17 = 0
    · rw [if_pos q, decide_eq_true q]; rfl
    · rw [if_neg q, decide_eq_false q]; rfl
  unfold mX12_isRead
  rw [if_pos s433, gMI, obind, sI_ok s433, obind, setI_hk, hpI_hk', gMI, obind, rowUp_same, updA_ne _ _ (by omega), gMI, obind, rowUp_same, updA_ne _ _ (by omega), b24, b24]
  by_cases q : J 433 17 = 0
  · rw [if_pos q, if_pos q]
  · rw [if_neg q, if_neg q]
/-- the model's suit without a fault -/
theorem mtail_ok (h17 : J 433 17 = 0) (hT : rTd J T) (hW : WT T) : ∃ J' M', mX12_suit_b61 433 (hk σ J M) = some (nI (T 0), hk σ J' M') ∧ MI J' T (bgN T) ∧ J' 433 8 = 0 ∧ J' 433 39 = 0 ∧ J' 433 19 = 0 ∧ J' 433 20 = -1 ∧ (∀ i, i < 2 → J' 441 i = 0) ∧ (∀ f, f < 13 → M' 436 f = M 437 f) ∧ (∀ x, x ≠ 433 → x ≠ 434 → x ≠ 438 → x ≠ 441 → (x < 443 ∨ 447 < x) → J' x = J x) ∧ (∀ k, k ≠ 8 → k ≠ 39 → k ≠ 19 → k ≠ 20 → J' 433 k = J 433 k) ∧ ∀ x, x ≠ 436 → M' x = M x := by
  obtain ⟨J1, e1, f19, f20, fx, fk⟩ := isRead_ok (σ := σ) (J := J) (M := M)
  rw [h17] at f19
  rw [h17, if_pos rfl] at f20
  rw [decide_eq_true h17] at e1
  obtain ⟨J2, hJ2⟩ : ∃ J2, J2 = rowUp J1 434 (fun i => if i < 640 then J1 435 i else J1 434 i) := ⟨_, rfl⟩
  have rT2 : rT J2 T := fun i hi => by rw [hJ2, rowUp_same]; show (if i < 640 then J1 435 i else J1 434 i) = _; rw [if_pos hi, fx 435 (by omega)]; exact hT i hi
  obtain ⟨M2, hM2⟩ : ∃ M2, M2 = rowUp M 436 (fun i => if i < 13 then M 437 i else M 436 i) := ⟨_, rfl⟩
  obtain ⟨J3, be, m1, m2, m3, m4, m5, m6⟩ := begins_ok (σ := σ) (L := M2) rT2 hW
  have x2 : ∀ x, x ≠ 434 → J2 x = J1 x := fun x hx => by rw [hJ2, rowUp_ne _ _ hx]
  refine ⟨J3, M2, ?_, m1, m2, m3, by rw [m6 19 (by omega) (by omega), x2 433 (by omega), f19], by rw [m6 20 (by omega) (by omega), x2 433 (by omega), f20], m4, fun f hf => by rw [hM2, rowUp_same]; exact if_pos hf, fun x a b c d e => by rw [m5 x a c d e, x2 x b, fx x a], fun k a b c d => by rw [m6 k a b, x2 433 (by omega), fk k c d], fun x hx => by rw [hM2, rowUp_ne _ _ hx]⟩
  unfold mX12_suit_b61
  rw [e1, b2s, if_neg (show ¬ bI true = 0 by decide)]
  refine ml72 ?_
  rw [← hJ2]
  refine ml99 ?_
  rw [← hM2, be, obind, g434, show (0 : Int32) = nI 0 from rfl, ldI_ok (n := 640) rfl (by omega) (by omega), obind, hpI_hk, m1.1 0 (by omega)]
/-- with a fault -/
theorem mtail_bad (h : MFl J fl pl) : ∃ J', mX12_suit_b61 433 (hk σ J M) = some (-1, hk σ J' M) ∧ J' 433 19 = nI fl ∧ J' 433 20 = nI pl ∧ (∀ x, x ≠ 433 → J' x = J x) ∧ ∀ k, k ≠ 19 → k ≠ 20 → J' 433 k = J 433 k := by
  obtain ⟨J1, e1, f19, f20, fx, fk⟩ := isRead_ok (σ := σ) (J := J) (M := M)
  rw [decide_eq_false h.ne] at e1
  rw [if_neg h.ne] at f20
  refine ⟨J1, ?_, by rw [f19]; exact h.2.2.2.1, by rw [f20]; exact h.2.2.2.2, fx, fk⟩
  unfold mX12_suit_b61
  rw [e1, b2s, if_pos (show bI false = 0 from rfl)]
/-- rows that a text's reading leaves -/
def Kp (la sa x : Nat) : Prop := x < 100 ∨ (la ≤ x ∧ x < la + 78) ∨ (sa ≤ x ∧ x < sa + 7) ∨ (285 ≤ x ∧ x < 414) ∨ x = 421 ∨ x = 434 ∨ (438 ≤ x ∧ x ≤ 441) ∨ (444 ≤ x ∧ x ≤ 447)
theorem CLw.eq2 (hla : isLa la) (hW : WT T) (h6 : CLw I L la T) (hn : ∀ j, j < 78 → I' (la + j) = I (la + j)) (hl : ∀ j, j < 78 → L' (la + j) = L (la + j)) : CLw I' L' la T := by
  have hn0 : I' la = I la := hn 0 (by omega)
  have hl2 : ∀ j, j < 61 → L' (la + 17 + j) = L (la + 17 + j) := fun j hj => by have := hl (17 + j) (by omega); rw [← Nat.add_assoc] at this; exact this
  obtain ⟨b1, b2, b3, b4, b5, b6, b7⟩ := h6
  have w2 := hW.1.2.2.1
  have w4 := hW.1.2.2.2.2.1
  refine ⟨by rw [hn0]; exact b1, fun i hi => by rw [hn 1 (by omega)]; exact b2 i hi, fun k hk' => ?_, fun p hp => ?_, fun i hi => by rw [hn 7 (by omega)]; exact b5 i hi, fun i hi => by rw [hn 10 (by omega)]; exact b6 i hi, by rw [hl 12 (by omega)]; exact b7⟩
  · obtain ⟨c1, c2, c3, c4⟩ := b3 k hk'
    have b26 := (hW.2.2.1 k hk').2.2.1
    refine ⟨by rw [hn 3 (by omega)]; exact c1, by rw [hn 6 (by omega)]; exact c2, by rw [hl2 _ (by omega)]; exact c3, fun i hi => ?_⟩
    obtain ⟨d1, d2, d3⟩ := c4 i hi
    exact ⟨by rw [hn 8 (by omega)]; exact d1, by rw [hn 9 (by omega)]; exact d2, by rw [hl2 _ (by omega)]; exact d3⟩
  · obtain ⟨c1, c2, c3, c4⟩ := b4 p hp
    exact ⟨by rw [hn 4 (by omega)]; exact c1, by rw [hn 8 (by omega)]; exact c2, by rw [hn 9 (by omega)]; exact c3, by rw [hl2 _ (by omega)]; exact c4⟩
theorem BI.su (h : BI σ I L T N a P K Q) (ea : gla σ' = gla σ) (es : gsa σ' = gsa σ) (f : ∀ x, Kp (gla σ) (gsa σ) x → I' x = I x ∧ L' x = L x) (f8 : I' 433 8 = I 433 8) : BI σ' I' L' T N a P K Q := by
  obtain ⟨⟨⟨h1, h2, h3⟩, h4, h5, h6, h7⟩, hM, hE, ⟨p1, p2, p3, p4, p5, p6, p7⟩, hP, hTh⟩ := h
  have hla := h1
  refine ⟨⟨⟨by rw [ea]; exact h1, by rw [es]; exact h2, fun k hk' => by rw [(f 2 (by unfold Kp; omega)).2]; exact h3 k hk'⟩, h4, h5, ?_, ?_⟩, hM.fw fun x hx => (f x (by unfold Kp; omega)).1, hE, ?_, fun k hk' => by rw [(f 3 (by unfold Kp; omega)).1]; exact hP k hk', fun k hk' => by rw [(f 421 (by unfold Kp; omega)).1]; exact hTh k hk'⟩
  · rw [ea]
    exact h6.eq2 hla h4 (fun j hj => (f _ (by unfold Kp; omega)).1) (fun j hj => (f _ (by unfold Kp; omega)).2)
  · rw [es]
    exact h7.eq fun x a b => (f x (by unfold Kp; omega)).1
  · have f1 : ∀ x, (285 ≤ x ∧ x < 414) ∨ (439 ≤ x ∧ x ≤ 441) → I' x = I x := fun x hx => (f x (by unfold Kp; omega)).1
    exact ⟨by rw [es]; exact p1, p2.fr (by rw [f1 285 (by omega)]) (by rw [f1 285 (by omega)]) (fun x a b => f1 x (by omega)), p3.fr ⟨f8, f1 439 (by omega)⟩, p4.fr (by rw [f1 285 (by omega)]) (fun x a b => f1 x (by omega)), p5.fr ⟨f1 440 (by omega), f1 441 (by omega)⟩, p6, p7⟩
end MSuit
