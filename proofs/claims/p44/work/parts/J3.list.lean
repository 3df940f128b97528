/-! LISTS; which worlds can be -/
section J3
variable {h h' h0 h1 h2 h3 : Hp} {P P' : Nat → Prop} {c c' s s' z a b n x y m F q oa na ma ua su nl lo d w e v : Nat} {t u : List Nat} {l l' : List Nat} {f g : Nat → Nat}
theorem setI_Rf (r : Nat → Int32) (b : Nat) : hpR (setI h a r) b = hpR h b := rfl
theorem AL.k (w : AL h a n f) : (hpS h a).1 = 18 + 1 := by rw [w.2.2.1]
theorem AL.size (w : AL h a n f) : mJx4a65c_size_8abf5 a h = some (nI n) := by
  have k := w.k
  have k' : (hpS h a).1 = 19 := k
  unfold mJx4a65c_size_8abf5
  rw [if_pos k', gI_ok k, obind, w.2.2.2.1]
theorem chk_ok (hi : m < n) (hn : n < 2147483648) : mJ15_checkIndex_7cf53 (nI m) (nI n) = some (nI m) := by
  unfold mJ15_checkIndex_7cf53 mJ3_checkIndex_8e157
  rw [if_neg (nI_pos (by omega)), c_lt hi (by omega), obind]
theorem AL.get (w : AL h a n f) (hi : m < n) : mJx4a65c_get_915e3 a (nI m) h = some (f m) := by
  have k := w.k
  have k' : (hpS h a).1 = 19 := k
  obtain ⟨w1, w2, w3, w4, w5, w6⟩ := w
  rcases w6 with ⟨q, _⟩ | ⟨q1, q2, q3, q4⟩
  · omega
  · unfold mJx4a65c_get_915e3 mJx4a65c_elementData_915e3
    rw [if_pos k', gI_ok k, obind, w4, chk_ok hi (by omega), obind, if_pos k', gR_ok k, obind, ldR_ok (n := 10) q3 (by omega) (by omega), obind, q4 m hi]
    rfl
theorem stO_ok {a n i v : Nat} {h : Hp} (hs : hpS h a = (78, n)) (hi : i < n) (h31 : n < 2 ^ 31) (hv : (hpS h v).1 = 13 ∨ (hpS h v).1 = 14) : stO a (nI i) v h = some (setR h a (updA (hpR h a) i v)) := by
  unfold stO
  rw [hs, inB_nI (by omega), ixN_nI (by omega), if_pos ⟨⟨rfl, by simpa using hi⟩, hv⟩, upR_set]
theorem stN_ok {c a n i : Nat} {h : Hp} (hs : hpS h a = (60 + c, n)) (hi : i < n) (h31 : n < 2 ^ 31) : stN c a (nI i) h = some (setR h a (updA (hpR h a) i 0)) := by
  unfold stN
  rw [hs, inB_nI (by omega), ixN_nI (by omega), if_pos ⟨rfl, by simpa using hi⟩, upR_set]
/-- what a step on a list leaves -/
def Lk (h h' : Hp) (oa na ma ua su n F nl : Nat) (c s : Nat) : Prop := LWs h' oa na ma ua su ∧ LWi h' n F nl ∧ CLO h' ∧ GK [19, 78] h h' c s
theorem Lk.W (k : Lk h h' oa na ma ua su n F nl c s) : LWs h' oa na ma ua su := k.1
theorem Lk.Li (k : Lk h h' oa na ma ua su n F nl c s) : LWi h' n F nl := k.2.1
theorem Lk.Cl (k : Lk h h' oa na ma ua su n F nl c s) : CLO h' := k.2.2.1
theorem Lk.G (k : Lk h h' oa na ma ua su n F nl c s) : GK [19, 78] h h' c s := k.2.2.2
theorem Lk.rf (w : LWs h oa na ma ua su) (li : LWi h n F nl) (C : CLO h) : Lk h h oa na ma ua su n F nl 0 0 := ⟨w, li, C, Gw.rf 0 0⟩
theorem Lk.sI (k : Lk h h1 oa na ma ua su n F nl c s) (hC : CLO h) (ha : 433 ≤ a) (hu : a ≠ ua) (hs : a < hpN h → (hpS h a).1 = 19) (r : Nat → Int32) : Lk h (setI h1 a r) oa na ma ua su n F nl c s := by
  have g := k.G.sI (a := a) (r := r) (fun q => Or.inr ⟨ha, by rw [hs q]; decide⟩)
  exact ⟨k.W.sI hu r, k.Li.sI (by omega) r, hC.ex g, g⟩
theorem Lk.sR (k : Lk h h1 oa na ma ua su n F nl c s) (hC : CLO h) (ha : 433 ≤ a) (hu : a ≠ ua) (hm : a ≠ ma) (hs : a < hpN h → (hpS h a).1 = 19 ∨ (hpS h a).1 = 78) (hk : (hpS h1 a).1 = 19 ∨ (hpS h1 a).1 = 78) (r : Nat → Nat) : Lk h (setR h1 a r) oa na ma ua su n F nl c s := by
  have g := k.G.sR (a := a) (r := r) (fun q => Or.inr ⟨ha, by rcases hs q with z | z <;> rw [z] <;> decide⟩) (fun q => by
    unfold txk at q
    omega)
  exact ⟨k.W.sR (by omega) hm hu r, k.Li, hC.ex g, g⟩
theorem Lk.nw (k : Lk h h1 oa na ma ua su n F nl c s) (hC : CLO h) (kd m : Nat) : Lk h (hpNew kd m h1) oa na ma ua su n F nl (c + 1) (s + m) :=
  ⟨k.W.nw kd m, k.Li.nw k.W.1 kd m, hC.ex (k.G.nw kd m), k.G.nw kd m⟩
theorem ma_n (w : LWs h oa na ma ua su) (hk : (hpS h a).1 ≠ 79) : a ≠ ma := fun q => by
  have := w.2.2.2.2.1.2.2.1
  rw [q, this] at hk
  exact hk rfl
theorem ua_n (w : LWs h oa na ma ua su) (hk : (hpS h a).1 ≠ 19) : a ≠ ua := fun q => by
  have := w.2.2.2.2.2.1.2.2.1
  rw [q, this] at hk
  exact hk rfl
/-- one more -/
theorem AL.add (al : AL h a n f) (w : LWs h oa na ma ua su) (li : LWi h m F nl) (hC : CLO h) (hu : a ≠ ua) (hn : n < 10) (hv : (hpS h v).1 = 13 ∨ (hpS h v).1 = 14) (hvN : v < hpN h) :
    ∃ h', mJx4a65c_add_9ea2d a v h = some (1, h') ∧ AL h' a (n + 1) (updA f n v) ∧ Lk h h' oa na ma ua su m F nl 1 10 ∧ ∀ b, b < hpN h → hpS h' b = hpS h b ∧ (b ≠ a → (hpS h b).1 ≠ 78 → hpI h' b = hpI h b ∧ hpR h' b = hpR h b) := by
  have k := al.k
  have k' : (hpS h a).1 = 19 := k
  obtain ⟨w1, w2, w3, w4, w5, w6⟩ := al
  have hma : a ≠ ma := ma_n w (by rw [w3]; show 19 ≠ 79; omega)
  obtain ⟨h1, hh1⟩ : ∃ h1, h1 = setI h a (updA (hpI h a) 0 (hpI h a 0 + 1)) := ⟨_, rfl⟩
  have L1 : Lk h h1 oa na ma ua su m F nl 0 0 := by rw [hh1]; exact (Lk.rf w li hC).sI hC w1 hu (fun _ => k') _
  have S1 : ∀ b, hpS h1 b = hpS h b := fun b => by rw [hh1]; rfl
  have R1 : ∀ b, hpR h1 b = hpR h b := fun b => by rw [hh1]; rfl
  have I1 : hpI h1 a 2 = nI n := by rw [hh1, setI_I, if_pos rfl, updA_ne _ _ (by omega), w4]
  have N1 : hpN h1 = hpN h := by rw [hh1]; rfl
  have k1 : (hpS h1 a).1 = 18 + 1 := by rw [S1]; exact k
  have k1' : (hpS h1 a).1 = 19 := k1
  have pre : ∀ {o : Option (Int32 × Hp)}, ((mJx4a65c_add_72be8 a v (hpR h1 a 1) (nI n) h1).bind fun h6 => some ((1 : Int32), h6)) = o → mJx4a65c_add_9ea2d a v h = o := fun {o} e => by
    unfold mJx4a65c_add_9ea2d
    rw [if_pos k', gI_ok k, obind, sI_ok k, obind, ← hh1, gR_ok k1, obind, gI_ok k1, obind, I1]
    exact e
  rcases w6 with ⟨rfl, q⟩ | ⟨q1, q2, q3, q4⟩
  · -- the first one: a row is made
    have C1 := L1.Cl
    have L2 := L1.nw hC 78 10
    have L3 := L2.sR (a := a) hC w1 hu hma (fun _ => Or.inl k') (Or.inl (by rw [nw_S, if_neg (by omega)]; exact k1')) (updA (hpR (hpNew 78 10 h1) a) 1 (hpN h1))
    obtain ⟨h3, hh3⟩ : ∃ h3, h3 = setR (hpNew 78 10 h1) a (updA (hpR (hpNew 78 10 h1) a) 1 (hpN h1)) := ⟨_, rfl⟩
    rw [← hh3] at L3
    have S3 : ∀ b, hpS h3 b = hpS (hpNew 78 10 h1) b := fun b => by rw [hh3]; rfl
    have S3d : hpS h3 (hpN h1) = (78, 10) := by rw [S3, nw_S, if_pos rfl]
    have S3a : hpS h3 a = (19, 3) := by rw [S3, nw_S, if_neg (by omega), S1, w3]
    have S3v : (hpS h3 v).1 = 13 ∨ (hpS h3 v).1 = 14 := by rw [S3, nw_S, if_neg (by omega), S1]; exact hv
    have L4 := L3.sR (a := hpN h1) hC (by omega) (ua_n L3.W (by rw [S3d]; show 78 ≠ 19; omega)) (ma_n L3.W (by rw [S3d]; show 78 ≠ 79; omega)) (fun z => by omega) (Or.inr (by rw [S3d])) (updA (hpR h3 (hpN h1)) 0 v)
    obtain ⟨h4, hh4⟩ : ∃ h4, h4 = setR h3 (hpN h1) (updA (hpR h3 (hpN h1)) 0 v) := ⟨_, rfl⟩
    rw [← hh4] at L4
    have S4 : ∀ b, hpS h4 b = hpS h3 b := fun b => by rw [hh4]; rfl
    have k4 : (hpS h4 a).1 = 18 + 1 := by rw [S4, S3a]
    have L5 := L4.sI (a := a) hC w1 hu (fun _ => k') (updA (hpI h4 a) 2 (nI (0 + 1)))
    have Ra1 : hpR h4 a 1 = hpN h1 := by rw [hh4, setR_R, if_neg (by omega), hh3, setR_R, if_pos rfl, updA_same]
    refine ⟨_, pre ?_, ⟨w1, ?_, ?_, ?_, by omega, Or.inr ⟨?_, ?_, ?_, fun i hi => ?_⟩⟩, ⟨L5.W, L5.Li, L5.Cl, L5.G.up (fun _ _ q => q) (by omega) (by omega)⟩, fun b hb => ⟨?_, fun hba _ => ⟨?_, ?_⟩⟩⟩
    · unfold mJx4a65c_add_72be8 mJx4a65c_grow_d5877 mJx4a65c_grow_92f84 mJx4a65c_add_72be8_b11
      have o4 : oLn 4 h1 = some 0 := rfl
      rw [if_pos k1', R1, q, o4, obind, if_pos (show nI 0 = (0 : Int32) from rfl), if_pos k1', gI_ok k1, obind, I1, if_pos k1', gR_ok k1, obind, R1, q, o4, obind, if_neg (by decide), obind, if_pos rfl, show nI 0 + (1 : Int32) = nI 1 from rfl, show mmax (10 : Int32) (nI 1) = nI 10 from rfl, newV_ok 78 C1.1 (by omega), b2s, sR_ok (by rw [nw_S, if_neg (by omega)]; exact k1), obind, ← hh3, b2s, b2s, show (nI 0) = nI 0 from rfl, stO_ok S3d (by omega) (by omega) S3v, obind, ← hh4, sI_ok k4, obind, obind]
    · show a < hpN h4
      rw [hh4]; show a < hpN h3; rw [hh3]; show a < hpN h1 + 1; omega
    · show hpS h4 a = _
      rw [S4, S3a]
    · rw [setI_I, if_pos rfl, updA_same]
    · rw [setI_Rf, Ra1]; omega
    · rw [setI_Rf, Ra1]
      show hpN h1 < hpN h4
      rw [hh4]; show hpN h1 < hpN h3; rw [hh3]; show hpN h1 < hpN h1 + 1; omega
    · rw [setI_Rf, Ra1]
      show hpS h4 (hpN h1) = _
      rw [S4]; exact S3d
    · have : i = 0 := by omega
      subst this
      rw [setI_Rf, setI_Rf, Ra1, hh4, setR_R, if_pos rfl, updA_same, updA_same]
    · show hpS h4 b = _
      rw [S4, S3, nw_S, if_neg (by omega), S1]
    · rw [setI_I, if_neg hba, hh4]
      show hpI h3 b = _
      rw [hh3]
      show hpI (hpNew 78 10 h1) b = _
      rw [nw_I (by omega), hh1, setI_I, if_neg hba]
    · rw [setI_Rf, hh4, setR_R, if_neg (by omega), hh3, setR_R, if_neg hba, nw_R (by omega), R1]
  · have dne : hpR h a 1 ≠ a := fun z => by rw [z, w3] at q3; cases q3
    have S1d : hpS h1 (hpR h a 1) = (78, 10) := by rw [S1]; exact q3
    have L4 := L1.sR (a := hpR h a 1) hC q1 (ua_n w (by rw [q3]; show 78 ≠ 19; omega)) (ma_n w (by rw [q3]; show 78 ≠ 79; omega)) (fun _ => Or.inr (by rw [q3])) (Or.inr (by rw [S1d])) (updA (hpR h1 (hpR h a 1)) n v)
    obtain ⟨h4, hh4⟩ : ∃ h4, h4 = setR h1 (hpR h a 1) (updA (hpR h1 (hpR h a 1)) n v) := ⟨_, rfl⟩
    rw [← hh4] at L4
    have S4 : ∀ b, hpS h4 b = hpS h1 b := fun b => by rw [hh4]; rfl
    have k4 : (hpS h4 a).1 = 18 + 1 := by rw [S4]; exact k1
    have L5 := L4.sI (a := a) hC w1 hu (fun _ => k') (updA (hpI h4 a) 2 (nI (n + 1)))
    have Ra : hpR h4 a = hpR h a := by rw [hh4, setR_R, if_neg (Ne.symm dne), R1]
    refine ⟨_, pre ?_, ⟨w1, ?_, ?_, ?_, by omega, Or.inr ⟨?_, ?_, ?_, fun i hi => ?_⟩⟩, ⟨L5.W, L5.Li, L5.Cl, L5.G.up (fun _ _ q => q) (by omega) (by omega)⟩, fun b hb => ⟨?_, fun hba hb78 => ⟨?_, ?_⟩⟩⟩
    · unfold mJx4a65c_add_72be8 mJx4a65c_add_72be8_b11
      have oL : oLn (hpR h a 1) h1 = some (nI 10) := by unfold oLn; rw [if_neg (by omega), aLen_ok S1d (by decide)]
      rw [if_pos k1', R1, oL, obind, c_eqd (by omega) (by omega), if_neg (by omega), stO_ok S1d (by omega) (by omega) (by rw [S1]; exact hv), obind, ← hh4, sI_ok k4, obind, obind, nI_1]
    · show a < hpN h4
      rw [hh4]; show a < hpN h1; omega
    · show hpS h4 a = _
      rw [S4, S1, w3]
    · rw [setI_I, if_pos rfl, updA_same]
    · rw [setI_Rf, Ra]; exact q1
    · rw [setI_Rf, Ra]
      show hpR h a 1 < hpN h4
      rw [hh4]; show _ < hpN h1; omega
    · rw [setI_Rf, Ra]
      show hpS h4 _ = _
      rw [S4]; exact S1d
    · rw [setI_Rf, setI_Rf, Ra, hh4, setR_R, if_pos rfl, R1, updA_at, updA_at]
      by_cases z : i = n
      · rw [if_pos z, if_pos z]
      · rw [if_neg z, if_neg z]; exact q4 i (by omega)
    · show hpS h4 b = _
      rw [S4, S1]
    · rw [setI_I, if_neg hba, hh4]
      show hpI h1 b = _
      rw [hh1, setI_I, if_neg hba]
    · rw [setI_Rf, hh4, setR_R, if_neg (fun z => by rw [z, q3] at hb78; exact hb78 rfl), R1]
/-- the last one goes -/
theorem AL.pop (al : AL h a (n + 1) f) (w : LWs h oa na ma ua su) (li : LWi h m F nl) (hC : CLO h) (hu : a ≠ ua) :
    ∃ h', mJx4a65c_remove_915e3 a (nI n) h = some (f n, h') ∧ AL h' a n f ∧ Lk h h' oa na ma ua su m F nl 0 0 ∧ ∀ b, hpS h' b = hpS h b ∧ (b ≠ a → (hpS h b).1 ≠ 78 → hpI h' b = hpI h b ∧ hpR h' b = hpR h b) := by
  have k := al.k
  have k' : (hpS h a).1 = 19 := k
  obtain ⟨w1, w2, w3, w4, w5, w6⟩ := al
  rcases w6 with ⟨z, _⟩ | ⟨q1, q2, q3, q4⟩
  · omega
  · have dne : hpR h a 1 ≠ a := fun z => by rw [z, w3] at q3; cases q3
    obtain ⟨h1, hh1⟩ : ∃ h1, h1 = setI h a (updA (hpI h a) 0 (hpI h a 0 + 1)) := ⟨_, rfl⟩
    have L1 : Lk h h1 oa na ma ua su m F nl 0 0 := by rw [hh1]; exact (Lk.rf w li hC).sI hC w1 hu (fun _ => k') _
    have S1 : ∀ b, hpS h1 b = hpS h b := fun b => by rw [hh1]; rfl
    have R1 : ∀ b, hpR h1 b = hpR h b := fun b => by rw [hh1]; rfl
    have I1 : hpI h1 a 2 = nI (n + 1) := by rw [hh1, setI_I, if_pos rfl, updA_ne _ _ (by omega), w4]
    have k1 : (hpS h1 a).1 = 18 + 1 := by rw [S1]; exact k
    obtain ⟨h2, hh2⟩ : ∃ h2, h2 = setI h1 a (updA (hpI h1 a) 2 (nI n)) := ⟨_, rfl⟩
    have L2 : Lk h h2 oa na ma ua su m F nl 0 0 := by rw [hh2]; exact L1.sI hC w1 hu (fun _ => k') _
    have S2 : ∀ b, hpS h2 b = hpS h b := fun b => by rw [hh2]; exact S1 b
    have R2 : ∀ b, hpR h2 b = hpR h b := fun b => by rw [hh2]; exact R1 b
    have L3 := L2.sR (a := hpR h a 1) hC q1 (ua_n w (by rw [q3]; show 78 ≠ 19; omega)) (ma_n w (by rw [q3]; show 78 ≠ 79; omega)) (fun _ => Or.inr (by rw [q3])) (Or.inr (by rw [S2, q3])) (updA (hpR h2 (hpR h a 1)) n 0)
    have Ra : hpR (setR h2 (hpR h a 1) (updA (hpR h2 (hpR h a 1)) n 0)) a = hpR h a := by rw [setR_R, if_neg (Ne.symm dne), R2]
    refine ⟨_, ?_, ⟨w1, ?_, ?_, ?_, by omega, Or.inr ⟨?_, ?_, ?_, fun i hi => ?_⟩⟩, L3, fun b => ⟨S2 b, fun hba hb78 => ⟨?_, ?_⟩⟩⟩
    · unfold mJx4a65c_remove_915e3 mJx4a65c_fastRemove_b59b0
      rw [if_pos k', gI_ok k, obind, w4, chk_ok (by omega) (by omega), obind, gR_ok k, obind, ldR_ok (n := 10) q3 (by omega) (by omega), obind, q4 n (by omega), if_pos k', gI_ok k, obind, sI_ok k, obind, ← hh1, gI_ok k1, obind, I1, nI_prd, c_nlt (Nat.le_refl _) (by omega), sI_ok k1, obind, ← hh2, stN_ok (by rw [S2]; exact q3) (by omega) (by omega), obind, obind]
    · show a < hpN h2
      rw [hh2]; show a < hpN h1; rw [hh1]; exact w2
    · show hpS h2 a = _
      rw [S2, w3]
    · show hpI h2 a 2 = _
      rw [hh2, setI_I, if_pos rfl, updA_same]
    · rw [Ra]; exact q1
    · rw [Ra]
      show _ < hpN h2
      rw [hh2]; show _ < hpN h1; rw [hh1]; exact q2
    · rw [Ra]
      show hpS h2 _ = _
      rw [S2]; exact q3
    · rw [Ra, setR_R, if_pos rfl, updA_ne _ _ (by omega), R2]; exact q4 i (by omega)
    · show hpI h2 b = _
      rw [hh2, setI_I, if_neg hba, hh1, setI_I, if_neg hba]
    · rw [setR_R, if_neg (fun z => by rw [z, q3] at hb78; exact hb78 rfl), R2]
/-- a list is cleared -/
theorem AL.clr (al : AL h a n f) (w : LWs h oa na ma ua su) (li : LWi h m F nl) (hC : CLO h) (hu : a ≠ ua) :
    ∃ h', mJx4a65c_clear_da8c8 a h = some h' ∧ (∀ g, AL h' a 0 g) ∧ Lk h h' oa na ma ua su m F nl 0 0 := by
  have k := al.k
  have k' : (hpS h a).1 = 19 := k
  obtain ⟨w1, w2, w3, w4, w5, w6⟩ := al
  obtain ⟨h1, hh1⟩ : ∃ h1, h1 = setI h a (updA (hpI h a) 0 (hpI h a 0 + 1)) := ⟨_, rfl⟩
  have L1 : Lk h h1 oa na ma ua su m F nl 0 0 := by rw [hh1]; exact (Lk.rf w li hC).sI hC w1 hu (fun _ => k') _
  have S1 : ∀ b, hpS h1 b = hpS h b := fun b => by rw [hh1]; rfl
  have R1 : ∀ b, hpR h1 b = hpR h b := fun b => by rw [hh1]; rfl
  have I1 : hpI h1 a 2 = nI n := by rw [hh1, setI_I, if_pos rfl, updA_ne _ _ (by omega), w4]
  have k1 : (hpS h1 a).1 = 18 + 1 := by rw [S1]; exact k
  obtain ⟨h2, hh2⟩ : ∃ h2, h2 = setI h1 a (updA (hpI h1 a) 2 0) := ⟨_, rfl⟩
  have L2 : Lk h h2 oa na ma ua su m F nl 0 0 := by rw [hh2]; exact L1.sI hC w1 hu (fun _ => k') _
  have S2 : ∀ b, hpS h2 b = hpS h b := fun b => by rw [hh2]; exact S1 b
  have R2 : ∀ b, hpR h2 b = hpR h b := fun b => by rw [hh2]; exact R1 b
  have I2 : hpI h2 a 2 = 0 := by rw [hh2, setI_I, if_pos rfl, updA_same]
  have N2 : hpN h2 = hpN h := by rw [hh2]; show hpN h1 = _; rw [hh1]; rfl
  have pre : ∀ {o : Option Hp}, mJx4a65c_clear_da8c8_l27 (hpR h a 1) (nI n) (0 : Int32) h2 = o → mJx4a65c_clear_da8c8 a h = o := fun {o} e => by
    unfold mJx4a65c_clear_da8c8
    rw [if_pos k', gI_ok k, obind, sI_ok k, obind, ← hh1, gR_ok k1, obind, R1, gI_ok k1, obind, I1, sI_ok k1, obind, ← hh2]
    exact e
  rcases w6 with ⟨rfl, q⟩ | ⟨q1, q2, q3, q4⟩
  · refine ⟨h2, pre ?_, fun g => ⟨w1, by omega, by rw [S2]; exact w3, by rw [I2]; rfl, by omega, Or.inl ⟨rfl, by rw [R2]; exact q⟩⟩, L2⟩
    unfold mJx4a65c_clear_da8c8_l27
    refine lp_inr ?_
    show mJx4a65c_clear_da8c8_l27f (hpR h a 1) (nI 0) (0 : Int32) h2 = _
    unfold mJx4a65c_clear_da8c8_l27f
    rw [if_neg (by decide), xts]
  · have dne : hpR h a 1 ≠ a := fun z => by rw [z, w3] at q3; cases q3
    have ud := ua_n w (a := hpR h a 1) (by rw [q3]; show 78 ≠ 19; omega)
    have md := ma_n w (a := hpR h a 1) (by rw [q3]; show 78 ≠ 79; omega)
    have lpc : ∃ h3, mJx4a65c_clear_da8c8_l27 (hpR h a 1) (nI n) (0 : Int32) h2 = some h3 ∧ Lk h h3 oa na ma ua su m F nl 0 0 ∧ (∀ b, hpS h3 b = hpS h b) ∧ hpN h3 = hpN h ∧ (∀ b, b ≠ hpR h a 1 → hpR h3 b = hpR h b) ∧ hpI h3 a 2 = 0 := by
      unfold mJx4a65c_clear_da8c8_l27
      refine lp_inv (f := fun s : (Int32 × Hp) => mJx4a65c_clear_da8c8_l27f (hpR h a 1) (nI n) s.1 s.2) n
        (fun i st => ∃ h3, st = (nI i, h3) ∧ Lk h h3 oa na ma ua su m F nl 0 0 ∧ (∀ b, hpS h3 b = hpS h b) ∧ hpN h3 = hpN h ∧ (∀ b, b ≠ hpR h a 1 → hpR h3 b = hpR h b) ∧ hpI h3 a 2 = 0) _
        (fun i st hi hQ => by
          obtain ⟨h3, rfl, L3, S3, N3, R3, I3⟩ := hQ
          refine ⟨_, ?_, _, rfl, L3.sR (a := hpR h a 1) hC q1 ud md (fun _ => Or.inr (by rw [q3])) (Or.inr (by rw [S3, q3])) (updA (hpR h3 (hpR h a 1)) i 0), fun b => S3 b, N3, fun b hb => by rw [setR_R, if_neg hb]; exact R3 b hb, I3⟩
          show mJx4a65c_clear_da8c8_l27f (hpR h a 1) (nI n) (nI i) h3 = _
          unfold mJx4a65c_clear_da8c8_l27f
          rw [c_lt hi (by omega), stN_ok (by rw [S3]; exact q3) (by omega) (by omega), obind, nI_1])
        (fun st hQ => by
          obtain ⟨h3, rfl, L3⟩ := hQ
          refine ⟨h3, ?_, L3⟩
          show mJx4a65c_clear_da8c8_l27f (hpR h a 1) (nI n) (nI n) h3 = _
          unfold mJx4a65c_clear_da8c8_l27f
          rw [c_nlt (Nat.le_refl _) (by omega), xts])
        (s := ((0 : Int32), h2)) ⟨h2, rfl, L2, S2, N2, fun b _ => by rw [R2], I2⟩
    obtain ⟨h3, e3, L3, S3, N3, R3, I3⟩ := lpc
    have Ra : hpR h3 a = hpR h a := R3 a (Ne.symm dne)
    exact ⟨h3, pre e3, fun g => ⟨w1, by omega, by rw [S3]; exact w3, by rw [I3]; rfl, by omega, Or.inr ⟨by rw [Ra]; exact q1, by rw [Ra]; omega, by rw [Ra, S3]; exact q3, fun i hi => absurd hi (Nat.not_lt_zero _)⟩⟩, L3⟩
theorem AL.shp (A : AL h a n f) (hN : hpN h ≤ hpN h') (hb : ∀ b, b < hpN h → hpS h' b = hpS h b) (hi : hpI h' a = hpI h a) (hr : hpR h' a = hpR h a) : ∃ g, AL h' a n g := by
  obtain ⟨w1, w2, w3, w4, w5, w6⟩ := A
  refine ⟨fun i => hpR h' (hpR h' a 1) i, w1, by omega, by rw [hb a w2]; exact w3, by rw [hi]; exact w4, w5, ?_⟩
  rw [hr]
  rcases w6 with z | ⟨z1, z2, z3, z4⟩
  · exact Or.inl z
  · exact Or.inr ⟨z1, by omega, by rw [hb _ z2]; exact z3, fun i hi => rfl⟩
/-- the undos are cleared -/
theorem clr_ua (w : LWs h oa na ma ua su) (li : LWi h n F nl) (hC : CLO h) : ∃ h', mJx4a65c_clear_da8c8 ua h = some h' ∧ LWs h' oa na ma ua su ∧ LWi h' n F nl ∧ CLO h' ∧ Gw h h' (fun b => b = ua) 0 0 ∧ ∀ b, hpS h' b = hpS h b ∧ hpR h' b = hpR h b ∧ (b ≠ ua → hpI h' b = hpI h b) := by
  obtain ⟨w1, w2, w4, o, mm, ⟨u1, u2, u3, u4, u5⟩, ne⟩ := id w
  have k : (hpS h ua).1 = 18 + 1 := by rw [u3]
  have k' : (hpS h ua).1 = 19 := k
  obtain ⟨h1, hh1⟩ : ∃ h1, h1 = setI h ua (updA (hpI h ua) 0 (hpI h ua 0 + 1)) := ⟨_, rfl⟩
  have k1 : (hpS h1 ua).1 = 18 + 1 := by rw [hh1]; exact k
  obtain ⟨h2, hh2⟩ : ∃ h2, h2 = setI h1 ua (updA (hpI h1 ua) 2 0) := ⟨_, rfl⟩
  have G : Gw h h2 (fun b => b = ua) 0 0 := by
    rw [hh2, hh1]
    exact ((Gw.rf (h := h) (P := fun b => b = ua) 0 0).sI (fun _ => rfl)).sI (fun _ => rfl)
  have z : ∀ b, hpS h2 b = hpS h b ∧ hpR h2 b = hpR h b ∧ (b ≠ ua → hpI h2 b = hpI h b) := fun b => ⟨by rw [hh2, hh1]; rfl, by rw [hh2, hh1]; rfl, fun hb => by rw [hh2, setI_I, if_neg hb, hh1, setI_I, if_neg hb]⟩
  have i2 : hpI h2 ua 2 = 0 := by rw [hh2, setI_I, if_pos rfl, updA_same]
  have n2 : hpN h2 = hpN h := by rw [hh2, hh1]; rfl
  refine ⟨h2, ?_, ?_, ?_, hC.ex G, G, z⟩
  · unfold mJx4a65c_clear_da8c8 mJx4a65c_clear_da8c8_l27
    rw [if_pos k', gI_ok k, obind, sI_ok k, obind, ← hh1, gR_ok k1, obind, gI_ok k1, obind, sI_ok k1, obind, ← hh2]
    have i1 : hpI h1 ua 2 = 0 := by rw [hh1, setI_I, if_pos rfl, updA_ne _ _ (by omega)]; exact u4
    refine lp_inr ?_
    show mJx4a65c_clear_da8c8_l27f (hpR h1 ua 1) (hpI h1 ua 2) (0 : Int32) h2 = _
    unfold mJx4a65c_clear_da8c8_l27f
    rw [i1, if_neg (by decide), xts]
  · have zS : ∀ b, hpS h2 b = hpS h b := fun b => (z b).1
    have zR : ∀ b, hpR h2 b = hpR h b := fun b => (z b).2.1
    unfold LWs
    simp only [zS, zR, n2, i2]
    exact ⟨w1, w2, w4, o, mm, ⟨u1, u2, u3, trivial, u5⟩, ne⟩
  · unfold LWi
    rw [(z 99).2.2 (by omega)]
    exact li
end J3
