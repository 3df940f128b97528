/-! EXPRESSIONS ARE READ -/
def PE (I : Nat → Nat → Int32) (X : Nat → Nat) (n m la off t1 t2 : Nat) (T : Nat → Nat) (i : Nat) (R : List (Nat × Nat)) : Prop := PCk I X n m i ∧ TS X n m i R ∧ CN I la t1 t2 ∧ CK I la off T ∧ T 7 ≤ i
/-- a method reads these tokens, its code means this -/
def RD (σ : Sg) (X : Nat → Nat) (n m la off t1 t2 : Nat) (f : Hp → Option (Int32 × Hp)) (Rk : List (Nat × Nat)) (bad : Nat → Bool) (h0 : Nat) (sem : Nat → Bool) : Prop :=
  ∀ ⦃I : Nat → Nat → Int32⦄ ⦃L : Nat → Nat → Int64⦄ ⦃T : Nat → Nat⦄ ⦃i : Nat⦄ ⦃R' : List (Nat × Nat)⦄, PE I X n m la off t1 t2 T i (Rk ++ R') → bad (hdk R') = false →
    ∃ I' T', f (hk σ I L) = some (1, hk σ I' L) ∧ PE I' X n m la off t1 t2 T' (i + Rk.length) R' ∧ T' 7 ≤ T 7 + Rk.length ∧ (∀ j, j ≠ 7 → j < 150 + T 7 → T' j = T j) ∧ RG t1 (cT T') (T 7) (T' 7) h0 (h0 + 1) ∧ SM (cT T') (T 7) (T' 7) h0 sem ∧ CF3 la I I'
/-- the parts from j on, each behind a separator -/
def jr {α : Type} (sep : List α) (p : Nat → List α) : Nat → Nat → List α
  | _, 0 => []
  | j, n + 1 => sep ++ (p j ++ jr sep p (j + 1) n)
theorem jn_add {α : Type} (sep : List α) (p : Nat → List α) : ∀ n j, 1 ≤ j → jn sep p (j + n) = jn sep p j ++ jr sep p j n
  | 0, j, _ => (List.append_nil _).symm
  | n + 1, j, hj => by
    rw [show j + (n + 1) = j + 1 + n by omega, jn_add sep p n (j + 1) (by omega)]
    show (jn sep p j ++ ((if j = 0 then [] else sep) ++ p j)) ++ jr sep p (j + 1) n = jn sep p j ++ (sep ++ (p j ++ jr sep p (j + 1) n))
    rw [if_neg (by omega), List.append_assoc, List.append_assoc]
theorem jn_jr {α : Type} (sep : List α) (p : Nat → List α) (n : Nat) : jn sep p (n + 1) = p 0 ++ jr sep p 1 n := by
  rw [Nat.add_comm, jn_add sep p n 1 (by omega)]
  rfl
section G5
variable {σ : Sg} {I I' I1 I2 I3 : Nat → Nat → Int32} {L L' L1 L2 : Nat → Nat → Int64} {X : Nat → Nat} {n m i la off t1 t2 h0 N dp k : Nat} {R R' Rk : List (Nat × Nat)} {T T' : Nat → Nat} {bad : Nat → Bool} {sem : Nat → Bool}
theorem PE.nx {q : Nat × Nat} (h : PE I X n m la off t1 t2 T i (q :: R)) (hla : isLa la) : PE (rowUp I 282 (updA (I 282) 5 (nI (i + 1)))) X n m la off t1 t2 T (i + 1) R :=
  ⟨h.1.adv h.2.1.1, h.2.1.2.2.2, h.2.2.1.cf hla CF2.up, h.2.2.2.1.cf hla CF2.up, by have := h.2.2.2.2; omega⟩
theorem PE.go (h : PE I X n m la off t1 t2 T i R) (hla : isLa la) (hc : PCk I' X n m (i + 1)) (ht : TS X n m (i + 1) R') (f : CF2 I I') : PE I' X n m la off t1 t2 T (i + 1) R' :=
  ⟨hc, ht, h.2.2.1.cf hla f, h.2.2.2.1.cf hla f, by have := h.2.2.2.2; omega⟩
theorem PE.em (h : PE I X n m la off t1 t2 T i R) (hla : isLa la) (hoff : off ≤ 480) (hi : T 7 < i) {c : Nat} {v : Int32} (hv : v = nI (cc c)) : ∃ I', mX1_emit la v (hk σ I L) = some (hk σ I' L) ∧ PE I' X n m la off t1 t2 (sT T c) i R ∧ CF3 la I I' := by
  have hle := h.1.le
  obtain ⟨I', e1, k1, f1, g1⟩ := emit_ok (σ := σ) (L := L) h.2.2.2.1 hla (by omega) hv
  exact ⟨I', e1, ⟨h.1.c3 hla f1 (by rw [g1]), h.2.1, h.2.2.1.c3 hla f1, k1, by rw [sT_7]; omega⟩, f1⟩
theorem bin_ok {c : Nat} (hc : c = 200 ∨ c = 300) : (∀ h, hok c (h + 2) = true ∧ hst c (h + 2) = h + 1) ∧ cc c = (if c = 200 then 9 else 10) := by
  rcases hc with rfl | rfl
  · exact ⟨fun h => ⟨by unfold hok; simp, rfl⟩, rfl⟩
  · exact ⟨fun h => ⟨by unfold hok; simp, rfl⟩, rfl⟩
theorem cT_eq {T T' : Nat → Nat} {s : Nat} (h : ∀ j, j ≠ 7 → j < 150 + T 7 → T' j = T j) (hs : s < T 7) : cT T' s = cT T s := h (150 + s) (by omega) (by omega)
theorem PE.m480 (h : PE I X n m la off t1 t2 T i R) : i + R.length ≤ 480 := by
  have := h.2.1.len
  have := h.1.1.1
  have := h.1.2.1
  omega
theorem hdk_c {q : Nat × Nat} {R : List (Nat × Nat)} : hdk (q :: R) = q.1 := rfl
/-- joined by & -/
theorem everyn_ok (hla : isLa la) (hg : gpl σ = la) (hoff : off ≤ 480) {p : Nat → List (Nat × Nat)} {s : Nat → Nat → Bool} {bi : Nat → Bool} (hsep : bi 38 = false) (hO : ∀ i, i < k → RD σ X n m la off t1 t2 (fun hp => (mg_X2_readEither N).2.2.1 282 (nI dp) hp) (p i) bi (h0 + 1) (s i)) (hbad : ∀ c, bad c = false → bi c = false ∧ c ≠ 38) :
    ∀ c j x, j + c = k → 1 ≤ j → ∀ {I L T i R'} {a0 : Nat}, PE I X n m la off t1 t2 T i (jr [(38, 0)] p j c ++ R') → bad (hdk R') = false → hdk R' < 1000 → x ≤ i → a0 ≤ T 7 → RG t1 (cT T) a0 (T 7) h0 (h0 + 1) → SM (cT T) a0 (T 7) h0 (fun w => allB (fun i => s i w) j) →
      ∃ I' T', mX2_readEvery_l12 (mg_X2_readEither N) 282 (nI dp) (nI x) (hk σ I L) = some (1, hk σ I' L) ∧ PE I' X n m la off t1 t2 T' (i + (jr [(38, 0)] p j c).length) R' ∧ T' 7 ≤ T 7 + (jr [(38, 0)] p j c).length ∧ (∀ j, j ≠ 7 → j < 150 + T 7 → T' j = T j) ∧ RG t1 (cT T') a0 (T' 7) h0 (h0 + 1) ∧ SM (cT T') a0 (T' 7) h0 (fun w => allB (fun i => s i w) k) ∧ CF3 la I I' := by
  intro c
  induction c with
  | zero =>
    intro j x hj h1 I L T i R' a0 h hb h1000 hx ha rg sm
    have hj' : j = k := by omega
    refine ⟨I, T, ?_, h, Nat.le_refl _, fun _ _ _ => rfl, rg, by rw [← hj']; exact sm, CF3.rf⟩
    have h : PE I X n m la off t1 t2 T i R' := h
    have q := (hbad _ hb).2
    unfold mX2_readEvery_l12
    refine lp_inr ?_
    show mX2_readEvery_l12f (mg_X2_readEither N) 282 (nI dp) (nI x) (hk σ I L) = _
    unfold mX2_readEvery_l12f
    rw [at_kind h.1 h.2.1, obind, if_neg (show ¬ nI (hdk R') = (38 : Int32) by rw [show (38 : Int32) = nI 38 from rfl, nI_eq' (by omega) (by omega)]; exact q), xts]
    by_cases q : nI x < (480 : Int32)
    · rw [if_pos q]
    · rw [if_neg q]
  | succ c ih =>
    intro j x hj h1 I L T i R' a0 h hb h1000 hx ha rg sm
    have h : PE I X n m la off t1 t2 T i ((38, 0) :: (p j ++ (jr [(38, 0)] p (j + 1) c ++ R'))) := by
      have e : jr [(38, 0)] p j (c + 1) ++ R' = (38, 0) :: (p j ++ (jr [(38, 0)] p (j + 1) c ++ R')) := by
        show ([(38, 0)] ++ (p j ++ jr [(38, 0)] p (j + 1) c)) ++ R' = _
        rw [List.append_assoc, List.append_assoc]; rfl
      rw [e] at h; exact h
    have hm := h.m480
    rw [List.length_cons] at hm
    have hne := h.nx hla
    have hbn : bi (hdk (jr [(38, 0)] p (j + 1) c ++ R')) = false := by
      cases c with
      | zero => exact (hbad _ hb).1
      | succ c => exact hsep
    obtain ⟨I1, T1, e1, p1, l1, a1, r1, s1, f1⟩ := hO j (by omega) (L := L) hne hbn
    have r1e := r1.1.1
    have t7 := h.2.2.2.2
    have t71 := p1.2.2.2.2
    obtain ⟨I2, e2, p2, f2⟩ := p1.em (σ := σ) (L := L) hla hoff (by omega) (c := 200) (v := 9) rfl
    have bo := (bin_ok (c := 200) (by decide)).1 h0
    have at1 : cT (sT T1 200) (T1 7) = 200 := sT_at
    have cg1 : ∀ s, s < T1 7 → cT (sT T1 200) s = cT T1 s := fun s hs => sT_lo hs
    have cg0 : ∀ s, s < T 7 → cT (sT T1 200) s = cT T s := fun s hs => (cg1 s (by omega)).trans (cT_eq a1 hs)
    have rg2 : RG t1 (cT (sT T1 200)) a0 (sT T1 200 7) h0 (h0 + 1) := by
      rw [sT_7]
      have z0 : RG t1 (cT (sT T1 200)) a0 (T 7) h0 (h0 + 1) := rg.cg (fun s _ h2 => cg0 s h2)
      have z1 : RG t1 (cT (sT T1 200)) (T 7) (T1 7) (h0 + 1) (h0 + 2) := r1.cg (fun s _ h2 => cg1 s h2)
      have z2 : RG t1 (cT (sT T1 200)) (T1 7) (T1 7 + 1) (h0 + 2) (hst (cT (sT T1 200) (T1 7)) (h0 + 2)) := RG.one (by rw [at1]; exact bo.1) (by rw [at1]; omega)
      rw [at1, bo.2] at z2
      exact (z0.tr z1).tr z2
    have sm2 : SM (cT (sT T1 200)) a0 (sT T1 200 7) h0 (fun w => allB (fun i => s i w) (j + 1)) := by
      rw [sT_7]
      exact SM.and (sm.cg (fun s _ h2 => cg0 s h2)) (s1.cg (fun s _ h2 => cg1 s h2)) at1
    obtain ⟨I3, T3, e3, p3, l3, a3, r3, s3, f3⟩ := ih (j + 1) (x + 1) (by omega) (by omega) (L := L) p2 hb h1000 (by omega) (a0 := a0) (by rw [sT_7]; omega) rg2 sm2
    have lj : (jr [(38, 0)] p j (c + 1)).length = 1 + ((p j).length + (jr [(38, 0)] p (j + 1) c).length) := by
      show ([(38, 0)] ++ (p j ++ jr [(38, 0)] p (j + 1) c)).length = _
      rw [List.length_append, List.length_append]; rfl
    refine ⟨I3, T3, ?_, ?_, ?_, fun y y7 hy => ?_, r3, s3, ((CF2.up.c3 hla).tr f1).tr (f2.tr f3)⟩
    · unfold mX2_readEvery_l12
      refine (lp_inl (t := (nI x + 1, hk σ I2 L)) ?_).trans ?_
      · show mX2_readEvery_l12f (mg_X2_readEither N) 282 (nI dp) (nI x) (hk σ I L) = _
        unfold mX2_readEvery_l12f
        have e1 : (mg_X2_readEither N).2.2.1 282 (nI dp) (hk σ (rowUp I 282 (updA (I 282) 5 (nI (i + 1)))) L) = some (1, hk σ I1 L) := e1
        have e2 : mX1_emit la (9 : Int32) (hk σ I1 L) = some (hk σ I2 L) := e2
        rw [if_pos (show nI x < (480 : Int32) from nI_lt (b := 480) (by omega) (by omega)), at_kind h.1 h.2.1, obind, if_pos (show nI (hdk _) = (38 : Int32) from rfl), gPI, obind, h.1.2.2.2.2.2.1, sI_ok s282, obind, setI_hk, hpI_hk', nI_1, e1, b2s, if_neg (by decide), gDr, hg, e2, obind]
      · rw [nI_1]; exact e3
    · rw [lj, show i + (1 + ((p j).length + (jr [(38, 0)] p (j + 1) c).length)) = i + 1 + (p j).length + (jr [(38, 0)] p (j + 1) c).length by omega]; exact p3
    · rw [lj]; rw [sT_7] at l3; omega
    · rw [a3 y y7 (by rw [sT_7]; omega), sT_ne y7 (by omega), a1 y y7 hy]
theorem every_ok (hla : isLa la) (hg : gpl σ = la) (hoff : off ≤ 480) {p : Nat → List (Nat × Nat)} {s : Nat → Nat → Bool} {bi : Nat → Bool} (hsep : bi 38 = false) (hO : ∀ i, i < k → ∀ h, h ≤ h0 + 1 → RD σ X n m la off t1 t2 (fun hp => (mg_X2_readEither N).2.2.1 282 (nI dp) hp) (p i) bi h (s i)) (hbad : ∀ c, bad c = false → bi c = false ∧ c ≠ 38 ∧ c < 1000) (hk1 : 1 ≤ k) :
    RD σ X n m la off t1 t2 (fun hp => (mg_X2_readEither (N + 1)).2.1 282 (nI dp) hp) (jn [(38, 0)] p k) bad h0 (fun w => allB (fun i => s i w) k) := by
  intro I L T i R' h hb
  obtain ⟨c, rfl⟩ : ∃ c, k = c + 1 := ⟨k - 1, by omega⟩
  rw [jn_jr] at h ⊢
  rw [List.append_assoc] at h
  have hbn : bi (hdk (jr [(38, 0)] p 1 c ++ R')) = false := by
    cases c with
    | zero => exact (hbad _ hb).1
    | succ c => exact hsep
  obtain ⟨I1, T1, e1, p1, l1, a1, r1, s1, f1⟩ := hO 0 (by omega) h0 (by omega) (L := L) h hbn
  have r1e := r1.1.1
  obtain ⟨I2, T2, e2, p2, l2, a2, r2, s2, f2⟩ := everyn_ok (bad := bad) hla hg hoff hsep (fun i hi => hO i hi (h0 + 1) (Nat.le_refl _)) (fun c hc => ⟨(hbad c hc).1, (hbad c hc).2.1⟩) c 1 0 (by omega) (by omega) (L := L) p1 hb (hbad _ hb).2.2 (by omega) (a0 := T 7) r1e r1 (s1.sem (fun w => by show s 0 w = allB (fun i => s i w) 1; show _ = (true && s 0 w); rw [Bool.true_and]))
  refine ⟨I2, T2, ?_, ?_, ?_, fun y y7 hy => ?_, r2, s2, f1.tr f2⟩
  · show mX2_readEvery_F (mg_X2_readEither N) 282 (nI dp) (hk σ I L) = _
    unfold mX2_readEvery_F
    have e1 : (mg_X2_readEither N).2.2.1 282 (nI dp) (hk σ I L) = some (1, hk σ I1 L) := e1
    rw [if_pos s282, e1, b2s, if_neg (by decide)]
    exact e2
  · rw [List.length_append, ← Nat.add_assoc]; exact p2
  · rw [List.length_append]; omega
  · rw [a2 y y7 (by omega), a1 y y7 hy]
/-- joined by | -/
theorem eithern_ok (hla : isLa la) (hg : gpl σ = la) (hoff : off ≤ 480) {p : Nat → List (Nat × Nat)} {s : Nat → Nat → Bool} {bi : Nat → Bool} (hsep : bi 124 = false) (hO : ∀ i, i < k → RD σ X n m la off t1 t2 (fun hp => (mg_X2_readEither N).2.1 282 (nI dp) hp) (p i) bi (h0 + 1) (s i)) (hbad : ∀ c, bad c = false → bi c = false ∧ c ≠ 124) :
    ∀ c j x, j + c = k → 1 ≤ j → ∀ {I L T i R'} {a0 : Nat}, PE I X n m la off t1 t2 T i (jr [(124, 0)] p j c ++ R') → bad (hdk R') = false → hdk R' < 1000 → x ≤ i → a0 ≤ T 7 → RG t1 (cT T) a0 (T 7) h0 (h0 + 1) → SM (cT T) a0 (T 7) h0 (fun w => anyB (fun i => s i w) j) →
      ∃ I' T', mX2_readEither_l12 (mg_X2_readEither N) 282 (nI dp) (nI x) (hk σ I L) = some (1, hk σ I' L) ∧ PE I' X n m la off t1 t2 T' (i + (jr [(124, 0)] p j c).length) R' ∧ T' 7 ≤ T 7 + (jr [(124, 0)] p j c).length ∧ (∀ j, j ≠ 7 → j < 150 + T 7 → T' j = T j) ∧ RG t1 (cT T') a0 (T' 7) h0 (h0 + 1) ∧ SM (cT T') a0 (T' 7) h0 (fun w => anyB (fun i => s i w) k) ∧ CF3 la I I' := by
  intro c
  induction c with
  | zero =>
    intro j x hj h1 I L T i R' a0 h hb h1000 hx ha rg sm
    have hj' : j = k := by omega
    refine ⟨I, T, ?_, h, Nat.le_refl _, fun _ _ _ => rfl, rg, by rw [← hj']; exact sm, CF3.rf⟩
    have h : PE I X n m la off t1 t2 T i R' := h
    have q := (hbad _ hb).2
    unfold mX2_readEither_l12
    refine lp_inr ?_
    show mX2_readEither_l12f (mg_X2_readEither N) 282 (nI dp) (nI x) (hk σ I L) = _
    unfold mX2_readEither_l12f
    rw [at_kind h.1 h.2.1, obind, if_neg (show ¬ nI (hdk R') = (124 : Int32) by rw [show (124 : Int32) = nI 124 from rfl, nI_eq' (by omega) (by omega)]; exact q), xts]
    by_cases q : nI x < (480 : Int32)
    · rw [if_pos q]
    · rw [if_neg q]
  | succ c ih =>
    intro j x hj h1 I L T i R' a0 h hb h1000 hx ha rg sm
    have h : PE I X n m la off t1 t2 T i ((124, 0) :: (p j ++ (jr [(124, 0)] p (j + 1) c ++ R'))) := by
      have e : jr [(124, 0)] p j (c + 1) ++ R' = (124, 0) :: (p j ++ (jr [(124, 0)] p (j + 1) c ++ R')) := by
        show ([(124, 0)] ++ (p j ++ jr [(124, 0)] p (j + 1) c)) ++ R' = _
        rw [List.append_assoc, List.append_assoc]; rfl
      rw [e] at h; exact h
    have hm := h.m480
    rw [List.length_cons] at hm
    have hne := h.nx hla
    have hbn : bi (hdk (jr [(124, 0)] p (j + 1) c ++ R')) = false := by
      cases c with
      | zero => exact (hbad _ hb).1
      | succ c => exact hsep
    obtain ⟨I1, T1, e1, p1, l1, a1, r1, s1, f1⟩ := hO j (by omega) (L := L) hne hbn
    have r1e := r1.1.1
    have t7 := h.2.2.2.2
    have t71 := p1.2.2.2.2
    obtain ⟨I2, e2, p2, f2⟩ := p1.em (σ := σ) (L := L) hla hoff (by omega) (c := 300) (v := 10) rfl
    have bo := (bin_ok (c := 300) (by decide)).1 h0
    have at1 : cT (sT T1 300) (T1 7) = 300 := sT_at
    have cg1 : ∀ s, s < T1 7 → cT (sT T1 300) s = cT T1 s := fun s hs => sT_lo hs
    have cg0 : ∀ s, s < T 7 → cT (sT T1 300) s = cT T s := fun s hs => (cg1 s (by omega)).trans (cT_eq a1 hs)
    have rg2 : RG t1 (cT (sT T1 300)) a0 (sT T1 300 7) h0 (h0 + 1) := by
      rw [sT_7]
      have z0 : RG t1 (cT (sT T1 300)) a0 (T 7) h0 (h0 + 1) := rg.cg (fun s _ h2 => cg0 s h2)
      have z1 : RG t1 (cT (sT T1 300)) (T 7) (T1 7) (h0 + 1) (h0 + 2) := r1.cg (fun s _ h2 => cg1 s h2)
      have z2 : RG t1 (cT (sT T1 300)) (T1 7) (T1 7 + 1) (h0 + 2) (hst (cT (sT T1 300) (T1 7)) (h0 + 2)) := RG.one (by rw [at1]; exact bo.1) (by rw [at1]; omega)
      rw [at1, bo.2] at z2
      exact (z0.tr z1).tr z2
    have sm2 : SM (cT (sT T1 300)) a0 (sT T1 300 7) h0 (fun w => anyB (fun i => s i w) (j + 1)) := by
      rw [sT_7]
      exact SM.or (sm.cg (fun s _ h2 => cg0 s h2)) (s1.cg (fun s _ h2 => cg1 s h2)) at1
    obtain ⟨I3, T3, e3, p3, l3, a3, r3, s3, f3⟩ := ih (j + 1) (x + 1) (by omega) (by omega) (L := L) p2 hb h1000 (by omega) (a0 := a0) (by rw [sT_7]; omega) rg2 sm2
    have lj : (jr [(124, 0)] p j (c + 1)).length = 1 + ((p j).length + (jr [(124, 0)] p (j + 1) c).length) := by
      show ([(124, 0)] ++ (p j ++ jr [(124, 0)] p (j + 1) c)).length = _
      rw [List.length_append, List.length_append]; rfl
    refine ⟨I3, T3, ?_, ?_, ?_, fun y y7 hy => ?_, r3, s3, ((CF2.up.c3 hla).tr f1).tr (f2.tr f3)⟩
    · unfold mX2_readEither_l12
      refine (lp_inl (t := (nI x + 1, hk σ I2 L)) ?_).trans ?_
      · show mX2_readEither_l12f (mg_X2_readEither N) 282 (nI dp) (nI x) (hk σ I L) = _
        unfold mX2_readEither_l12f
        have e1 : (mg_X2_readEither N).2.1 282 (nI dp) (hk σ (rowUp I 282 (updA (I 282) 5 (nI (i + 1)))) L) = some (1, hk σ I1 L) := e1
        have e2 : mX1_emit la (10 : Int32) (hk σ I1 L) = some (hk σ I2 L) := e2
        rw [if_pos (show nI x < (480 : Int32) from nI_lt (b := 480) (by omega) (by omega)), at_kind h.1 h.2.1, obind, if_pos (show nI (hdk _) = (124 : Int32) from rfl), gPI, obind, h.1.2.2.2.2.2.1, sI_ok s282, obind, setI_hk, hpI_hk', nI_1, e1, b2s, if_neg (by decide), gDr, hg, e2, obind]
      · rw [nI_1]; exact e3
    · rw [lj, show i + (1 + ((p j).length + (jr [(124, 0)] p (j + 1) c).length)) = i + 1 + (p j).length + (jr [(124, 0)] p (j + 1) c).length by omega]; exact p3
    · rw [lj]; rw [sT_7] at l3; omega
    · rw [a3 y y7 (by rw [sT_7]; omega), sT_ne y7 (by omega), a1 y y7 hy]
theorem either_ok (hla : isLa la) (hg : gpl σ = la) (hoff : off ≤ 480) {p : Nat → List (Nat × Nat)} {s : Nat → Nat → Bool} {bi : Nat → Bool} (hsep : bi 124 = false) (hO : ∀ i, i < k → ∀ h, h ≤ h0 + 1 → RD σ X n m la off t1 t2 (fun hp => (mg_X2_readEither N).2.1 282 (nI dp) hp) (p i) bi h (s i)) (hbad : ∀ c, bad c = false → bi c = false ∧ c ≠ 124 ∧ c < 1000) (hk1 : 1 ≤ k) :
    RD σ X n m la off t1 t2 (fun hp => (mg_X2_readEither (N + 1)).1 282 (nI dp) hp) (jn [(124, 0)] p k) bad h0 (fun w => anyB (fun i => s i w) k) := by
  intro I L T i R' h hb
  obtain ⟨c, rfl⟩ : ∃ c, k = c + 1 := ⟨k - 1, by omega⟩
  rw [jn_jr] at h ⊢
  rw [List.append_assoc] at h
  have hbn : bi (hdk (jr [(124, 0)] p 1 c ++ R')) = false := by
    cases c with
    | zero => exact (hbad _ hb).1
    | succ c => exact hsep
  obtain ⟨I1, T1, e1, p1, l1, a1, r1, s1, f1⟩ := hO 0 (by omega) h0 (by omega) (L := L) h hbn
  have r1e := r1.1.1
  obtain ⟨I2, T2, e2, p2, l2, a2, r2, s2, f2⟩ := eithern_ok (bad := bad) hla hg hoff hsep (fun i hi => hO i hi (h0 + 1) (Nat.le_refl _)) (fun c hc => ⟨(hbad c hc).1, (hbad c hc).2.1⟩) c 1 0 (by omega) (by omega) (L := L) p1 hb (hbad _ hb).2.2 (by omega) (a0 := T 7) r1e r1 (s1.sem (fun w => by show s 0 w = anyB (fun i => s i w) 1; show _ = (false || s 0 w); rw [Bool.false_or]))
  refine ⟨I2, T2, ?_, ?_, ?_, fun y y7 hy => ?_, r2, s2, f1.tr f2⟩
  · show mX2_readEither_F (mg_X2_readEither N) 282 (nI dp) (hk σ I L) = _
    unfold mX2_readEither_F
    have e1 : (mg_X2_readEither N).2.1 282 (nI dp) (hk σ I L) = some (1, hk σ I1 L) := e1
    rw [if_pos s282, e1, b2s, if_neg (by decide)]
    exact e2
  · rw [List.length_append, ← Nat.add_assoc]; exact p2
  · rw [List.length_append]; omega
  · rw [a2 y y7 (by omega), a1 y y7 hy]
/-- a fact alone -/
theorem one_fact (hla : isLa la) (hg : gpl σ = la) (hoff : off ≤ 480) {f : Nat} (hf : f < t1) (ht : t1 ≤ 8) (h60 : h0 < 60) (bad : Nat → Bool) : RD σ X n m la off t1 t2 (fun hp => (mg_X2_readEither (N + 1)).2.2.1 282 (nI dp) hp) [(2, f + 1)] bad h0 (fun w => w.testBit f) := by
  intro I L T i R' h hb
  obtain ⟨I1, e1, c1, ts1, f1, g1⟩ := fact_ok (σ := σ) (L := L) h.1 (by rw [hg]; exact hla) (by rw [hg]; exact h.2.2.1) hf h.2.1
  have p1 := h.go hla c1 ts1 f1
  have t7 := h.2.2.2.2
  obtain ⟨I2, e2, p2, f2⟩ := p1.em (σ := σ) (L := L) hla hoff (by omega) (c := f) (v := nI f) (by unfold cc; rw [if_pos (by omega), Nat.mod_eq_of_lt (by omega)])
  have at1 : cT (sT T f) (T 7) = f := sT_at
  refine ⟨I2, sT T f, ?_, p2, ?_, fun y y7 hy => sT_ne y7 (by omega), ?_, ?_, (f1.c3 hla).tr f2⟩
  · show mX2_readOne_F (mg_X2_readEither N) 282 (nI dp) (hk σ I L) = _
    unfold mX2_readOne_F
    rw [if_pos s282, at_kind h.1 h.2.1, obind, show hdk ([(2, f + 1)] ++ R') = 2 from rfl, if_neg (by decide), if_neg (by decide), if_neg (by decide), e1, b2s, if_neg (by decide), gDr, hg, gPI, obind, g1, e2, obind]
  · rw [sT_7]; exact Nat.le_refl _
  · rw [sT_7]
    have z := RG.one (tb := t1) (cd := cT (sT T f)) (a := T 7) (h := h0) (by rw [at1]; unfold hok; rw [if_pos (by omega), Nat.mod_eq_of_lt (by omega)]; exact decide_eq_true ⟨by omega, h60⟩) (by rw [at1]; omega)
    rw [at1] at z
    have : hst f h0 = h0 + 1 := by unfold hst; rw [if_pos (by omega)]
    rw [this] at z; exact z
  · rw [sT_7]
    exact SM.leaf at1 (by omega)
/-- not -/
theorem one_not (hla : isLa la) (hg : gpl σ = la) (hoff : off ≤ 480) (hd : dp < 5) {bad : Nat → Bool} (hO : RD σ X n m la off t1 t2 (fun hp => (mg_X2_readEither N).2.2.1 282 (nI (dp + 1)) hp) Rk bad h0 sem) : RD σ X n m la off t1 t2 (fun hp => (mg_X2_readEither (N + 1)).2.2.1 282 (nI dp) hp) ((33, 0) :: Rk) bad h0 (fun w => !sem w) := by
  intro I L T i R' h hb
  have hne := PE.nx (q := (33, 0)) (R := Rk ++ R') h hla
  obtain ⟨I1, T1, e1, p1, l1, a1, r1, s1, f1⟩ := hO (L := L) hne hb
  have t7 := h.2.2.2.2
  have r1e := r1.1.1
  obtain ⟨I2, e2, p2, f2⟩ := p1.em (σ := σ) (L := L) hla hoff (by omega) (c := 100) (v := 8) rfl
  have at1 : cT (sT T1 100) (T1 7) = 100 := sT_at
  have cg1 : ∀ s, s < T1 7 → cT (sT T1 100) s = cT T1 s := fun s hs => sT_lo hs
  refine ⟨I2, sT T1 100, ?_, ?_, ?_, fun y y7 hy => by rw [sT_ne y7 (by omega), a1 y y7 hy], ?_, ?_, (CF2.up.c3 hla).tr (f1.tr f2)⟩
  · show mX2_readOne_F (mg_X2_readEither N) 282 (nI dp) (hk σ I L) = _
    unfold mX2_readOne_F mX2_readOne_b50
    have e1 : (mg_X2_readEither N).2.2.1 282 (nI (dp + 1)) (hk σ (rowUp I 282 (updA (I 282) 5 (nI (i + 1)))) L) = some (1, hk σ I1 L) := e1
    have e2 : mX1_emit la (8 : Int32) (hk σ I1 L) = some (hk σ I2 L) := e2
    rw [if_pos s282, at_kind h.1 h.2.1, obind, show hdk ((33, 0) :: Rk ++ R') = 33 from rfl, if_neg (by decide), if_pos (by rfl), if_pos (show nI dp < (5 : Int32) from nI_lt (b := 5) hd (by omega)), gPI, obind, h.1.2.2.2.2.2.1, sI_ok s282, obind, setI_hk, hpI_hk', nI_1, if_neg (by decide), nI_1, e1, b2s, if_neg (by decide), gDr, hg, e2, obind]
  · rw [List.length_cons, show i + (Rk.length + 1) = i + 1 + Rk.length by omega]; exact p2
  · rw [sT_7, List.length_cons]; omega
  · rw [sT_7]
    have z1 : RG t1 (cT (sT T1 100)) (T 7) (T1 7) h0 (h0 + 1) := r1.cg (fun s _ h2 => cg1 s h2)
    have z2 := RG.one (tb := t1) (cd := cT (sT T1 100)) (a := T1 7) (h := h0 + 1) (by rw [at1]; unfold hok; rw [if_neg (by omega), if_pos (by omega)]; exact decide_eq_true (by omega)) (by rw [at1]; omega)
    rw [at1] at z2
    exact z1.tr z2
  · rw [sT_7]
    exact (s1.cg (fun s _ h2 => cg1 s h2)).not at1
/-- in brackets -/
theorem one_par (hla : isLa la) (hg : gpl σ = la) (hoff : off ≤ 480) (hd : dp < 5) {bad bi : Nat → Bool} (h41 : bi 41 = false) (hE : RD σ X n m la off t1 t2 (fun hp => (mg_X2_readEither N).1 282 (nI (dp + 1)) hp) Rk bi h0 sem) : RD σ X n m la off t1 t2 (fun hp => (mg_X2_readEither (N + 1)).2.2.1 282 (nI dp) hp) ((40, 0) :: (Rk ++ [(41, 0)])) bad h0 sem := by
  intro I L T i R' h hb
  have h : PE I X n m la off t1 t2 T i ((40, 0) :: (Rk ++ ((41, 0) :: R'))) := by
    have e : (40, 0) :: (Rk ++ [(41, 0)]) ++ R' = (40, 0) :: (Rk ++ ((41, 0) :: R')) := by
      show (40, 0) :: ((Rk ++ [(41, 0)]) ++ R') = _
      rw [List.append_assoc]; rfl
    rw [e] at h; exact h
  have hne := h.nx hla
  obtain ⟨I1, T1, e1, p1, l1, a1, r1, s1, f1⟩ := hE (L := L) hne h41
  obtain ⟨I2, e2, c2, ts2, f2, g2⟩ := exp_ok (σ := σ) (L := L) p1.1 p1.2.1
  have p2 := p1.go hla c2 ts2 f2
  refine ⟨I2, T1, ?_, ?_, ?_, a1, r1, s1, (CF2.up.c3 hla).tr (f1.tr (f2.c3 hla))⟩
  · show mX2_readOne_F (mg_X2_readEither N) 282 (nI dp) (hk σ I L) = _
    unfold mX2_readOne_F mX2_readOne_b50
    have e1 : (mg_X2_readEither N).1 282 (nI (dp + 1)) (hk σ (rowUp I 282 (updA (I 282) 5 (nI (i + 1)))) L) = some (1, hk σ I1 L) := e1
    have e2 : mX2_expect 282 (41 : Int32) (hk σ I1 L) = some (1, hk σ I2 L) := e2
    rw [if_pos s282, at_kind h.1 h.2.1, obind, hdk_c, if_neg (by decide), if_neg (by decide), if_pos (by rfl), if_pos (show nI dp < (5 : Int32) from nI_lt (b := 5) hd (by omega)), gPI, obind, h.1.2.2.2.2.2.1, sI_ok s282, obind, setI_hk, hpI_hk', nI_1, if_pos (by rfl), nI_1, e1, b2s, if_neg (by decide), e2, b2s, if_neg (by decide)]
  · rw [List.length_cons, List.length_append, List.length_cons, List.length_nil, show i + (Rk.length + (0 + 1) + 1) = i + 1 + Rk.length + 1 by omega]; exact p2
  · rw [List.length_cons, List.length_append]; omega
/-- so many of these -/
theorem sevl_ok (hla : isLa la) (hg : gpl σ = la) (hoff : off ≤ 480) {o : Nat} (ho : o ≤ 6) (hk6 : k ≤ 6) {p : Nat → List (Nat × Nat)} {s : Nat → Nat → Bool} {bi : Nat → Bool} (h41 : bi 41 = false) (h44 : bi 44 = false) (hE : ∀ i, i < k → ∀ h, h ≤ h0 + k → RD σ X n m la off t1 t2 (fun hp => (mg_X2_readEither N).1 282 (nI (dp + 1)) hp) (p i) bi h (s i)) :
    ∀ c j, j + 1 + c = k → ∀ {I L T i R'} {a0 : Nat}, PE I X n m la off t1 t2 T i (p j ++ (jr [(44, 0)] p (j + 1) c ++ ((41, 0) :: R'))) → a0 ≤ T 7 → RG t1 (cT T) a0 (T 7) h0 (h0 + j) → SMn (cT T) a0 (T 7) h0 j s →
      ∃ I' T', mX2_readSeveral_l62 (mg_X2_readEither N) 282 (nI dp) (nI o) (nI (j + 1)) (hk σ I L) = some (1, hk σ I' L) ∧ PE I' X n m la off t1 t2 T' (i + ((p j).length + (jr [(44, 0)] p (j + 1) c).length + 1)) R' ∧ T' 7 ≤ T 7 + ((p j).length + (jr [(44, 0)] p (j + 1) c).length + 1) ∧ (∀ j, j ≠ 7 → j < 150 + T 7 → T' j = T j) ∧ RG t1 (cT T') a0 (T' 7) h0 (h0 + 1) ∧ SM (cT T') a0 (T' 7) h0 (fun w => decide (o ≤ cntB (fun i => s i w) k)) ∧ CF3 la I I' := by
  intro c
  induction c with
  | zero =>
    intro j hj I L T i R' a0 h ha rg sm
    obtain rfl : k = j + 1 := by omega
    obtain ⟨I1, T1, e1, p1, l1, a1, r1, s1, f1⟩ := hE j (by omega) (h0 + j) (by omega) (L := L) h h41
    have p1 : PE I1 X n m la off t1 t2 T1 (i + (p j).length) ((41, 0) :: R') := p1
    have hne := p1.nx hla
    have t71 := p1.2.2.2.2
    have r1e := r1.1.1
    obtain ⟨I2, e2, p2, f2⟩ := hne.em (σ := σ) (L := L) hla hoff (by omega) (c := 400 + (10 * o + (j + 1))) (v := nI (16 + 8 * o + (j + 1))) (by unfold cc; rw [if_neg (by omega), if_neg (by omega), if_pos (by omega)]; congr 1; omega)
    have at1 : cT (sT T1 (400 + (10 * o + (j + 1)))) (T1 7) = 400 + (10 * o + (j + 1)) := sT_at
    have cg1 : ∀ s, s < T1 7 → cT (sT T1 (400 + (10 * o + (j + 1)))) s = cT T1 s := fun s hs => sT_lo hs
    have cg0 : ∀ s, s < T 7 → cT (sT T1 (400 + (10 * o + (j + 1)))) s = cT T s := fun s hs => (cg1 s (by omega)).trans (cT_eq a1 hs)
    refine ⟨I2, sT T1 (400 + (10 * o + (j + 1))), ?_, ?_, ?_, fun y y7 hy => by rw [sT_ne y7 (by omega), a1 y y7 hy], ?_, ?_, f1.tr ((CF2.up.c3 hla).tr f2)⟩
    · unfold mX2_readSeveral_l62
      refine lp_inr ?_
      show mX2_readSeveral_l62f (mg_X2_readEither N) 282 (nI dp) (nI o) (nI (j + 1)) (hk σ I L) = _
      unfold mX2_readSeveral_l62f
      have e1 : (mg_X2_readEither N).1 282 (nI (dp + 1)) (hk σ I L) = some (1, hk σ I1 L) := e1
      rw [if_neg (show ¬ (6 : Int32) < nI (j + 1) from nI_nlt (a := 6) (b := j + 1) (by omega) (by omega)), nI_1, e1, b2s, if_neg (by decide), at_kind p1.1 p1.2.1, obind, hdk_c, if_pos (by rfl), gPI, obind, p1.1.2.2.2.2.2.1, sI_ok s282, obind, setI_hk, hpI_hk', nI_1, gDr, hg, show (16 : Int32) = nI 16 from rfl, show (8 : Int32) = nI 8 from rfl, pk_mul, nI_add, nI_add, e2, obind, xts]
    · show PE I2 X n m la off t1 t2 _ (i + ((p j).length + 0 + 1)) R'
      rw [show i + ((p j).length + 0 + 1) = i + (p j).length + 1 by omega]; exact p2
    · rw [sT_7]; omega
    · rw [sT_7]
      have z0 : RG t1 (cT (sT T1 (400 + (10 * o + (j + 1))))) a0 (T 7) h0 (h0 + j) := rg.cg (fun s _ h2 => cg0 s h2)
      have z1 : RG t1 (cT (sT T1 (400 + (10 * o + (j + 1))))) (T 7) (T1 7) (h0 + j) (h0 + j + 1) := r1.cg (fun s _ h2 => cg1 s h2)
      have z2 := RG.one (tb := t1) (cd := cT (sT T1 (400 + (10 * o + (j + 1))))) (a := T1 7) (h := h0 + j + 1) (by rw [at1]; unfold hok; rw [if_neg (by omega), if_neg (by omega), if_pos (by omega)]; exact decide_eq_true ⟨by omega, by omega, by omega, by omega⟩) (by rw [at1]; omega)
      rw [at1] at z2
      have hs : hst (400 + (10 * o + (j + 1))) (h0 + j + 1) = h0 + 1 := by unfold hst; rw [if_neg (by omega), if_neg (by omega), if_pos (by omega)]; omega
      rw [hs] at z2
      exact (z0.tr z1).tr z2
    · rw [sT_7]
      exact SMn.fin ((sm.cg (fun s _ h2 => cg0 s h2)).snoc (s1.cg (fun s _ h2 => cg1 s h2))) at1 (by omega) (by omega) ho
  | succ c ih =>
    intro j hj I L T i R' a0 h ha rg sm
    have ej : jr [(44, 0)] p (j + 1) (c + 1) ++ ((41, 0) :: R') = (44, 0) :: (p (j + 1) ++ (jr [(44, 0)] p (j + 1 + 1) c ++ ((41, 0) :: R'))) := by
      show ([(44, 0)] ++ (p (j + 1) ++ jr [(44, 0)] p (j + 1 + 1) c)) ++ _ = _
      rw [List.append_assoc, List.append_assoc]; rfl
    rw [ej] at h
    obtain ⟨I1, T1, e1, p1, l1, a1, r1, s1, f1⟩ := hE j (by omega) (h0 + j) (by omega) (L := L) h h44
    obtain ⟨I2, e2, c2, ts2, f2, g2⟩ := exp_ok (σ := σ) (L := L) p1.1 p1.2.1
    have p2 := p1.go hla c2 ts2 f2
    have r1e := r1.1.1
    have cg0 : ∀ s, s < T 7 → cT T1 s = cT T s := fun s hs => cT_eq a1 hs
    obtain ⟨I3, T3, e3, p3, l3, a3, r3, s3, f3⟩ := ih (j + 1) (by omega) (L := L) p2 (a0 := a0) (by omega) ((rg.cg (fun s _ h2 => cg0 s h2)).tr r1) ((sm.cg (fun s _ h2 => cg0 s h2)).snoc s1)
    have lj : (jr [(44, 0)] p (j + 1) (c + 1)).length = 1 + ((p (j + 1)).length + (jr [(44, 0)] p (j + 1 + 1) c).length) := by
      show ([(44, 0)] ++ (p (j + 1) ++ jr [(44, 0)] p (j + 1 + 1) c)).length = _
      rw [List.length_append, List.length_append]; rfl
    refine ⟨I3, T3, ?_, ?_, ?_, fun y y7 hy => by rw [a3 y y7 (by omega), a1 y y7 hy], r3, s3, f1.tr ((f2.c3 hla).tr f3)⟩
    · unfold mX2_readSeveral_l62
      refine (lp_inl (t := (nI (j + 1 + 1), hk σ I2 L)) ?_).trans e3
      show mX2_readSeveral_l62f (mg_X2_readEither N) 282 (nI dp) (nI o) (nI (j + 1)) (hk σ I L) = _
      unfold mX2_readSeveral_l62f
      have e1 : (mg_X2_readEither N).1 282 (nI (dp + 1)) (hk σ I L) = some (1, hk σ I1 L) := e1
      have e2 : mX2_expect 282 (44 : Int32) (hk σ I1 L) = some (1, hk σ I2 L) := e2
      rw [if_neg (show ¬ (6 : Int32) < nI (j + 1) from nI_nlt (a := 6) (b := j + 1) (by omega) (by omega)), nI_1, e1, b2s, if_neg (by decide), at_kind p1.1 p1.2.1, obind, hdk_c, if_neg (by decide), e2, b2s, if_neg (by decide), nI_1]
    · rw [lj, show i + ((p j).length + (1 + ((p (j + 1)).length + (jr [(44, 0)] p (j + 1 + 1) c).length)) + 1) = i + (p j).length + 1 + ((p (j + 1)).length + (jr [(44, 0)] p (j + 1 + 1) c).length + 1) by omega]; exact p3
    · rw [lj]; omega
theorem one_sev (hla : isLa la) (hg : gpl σ = la) (hoff : off ≤ 480) (hd : dp < 5) {o : Nat} (ho : o ≤ 6) (hk1 : 1 ≤ k) (hk6 : k ≤ 6) {p : Nat → List (Nat × Nat)} {s : Nat → Nat → Bool} {bad bi : Nat → Bool} (h41 : bi 41 = false) (h44 : bi 44 = false) (hE : ∀ i, i < k → ∀ h, h ≤ h0 + k → RD σ X n m la off t1 t2 (fun hp => (mg_X2_readEither N).1 282 (nI (dp + 1)) hp) (p i) bi h (s i)) :
    RD σ X n m la off t1 t2 (fun hp => (mg_X2_readEither (N + 2)).2.2.1 282 (nI dp) hp) ((3, o) :: (266, 486) :: (40, 0) :: (jn [(44, 0)] p k ++ [(41, 0)])) bad h0 (fun w => decide (o ≤ cntB (fun i => s i w) k)) := by
  intro I L T i R' h hb
  obtain ⟨c, rfl⟩ : ∃ c, k = c + 1 := ⟨k - 1, by omega⟩
  rw [jn_jr] at h ⊢
  have h : PE I X n m la off t1 t2 T i ((3, o) :: (266, 486) :: (40, 0) :: (p 0 ++ (jr [(44, 0)] p 1 c ++ ((41, 0) :: R')))) := by
    have e : (3, o) :: (266, 486) :: (40, 0) :: ((p 0 ++ jr [(44, 0)] p 1 c) ++ [(41, 0)]) ++ R' = (3, o) :: (266, 486) :: (40, 0) :: (p 0 ++ (jr [(44, 0)] p 1 c ++ ((41, 0) :: R'))) := by
      show (3, o) :: (266, 486) :: (40, 0) :: (((p 0 ++ jr [(44, 0)] p 1 c) ++ [(41, 0)]) ++ R') = _
      rw [List.append_assoc, List.append_assoc]; rfl
    rw [e] at h; exact h
  obtain ⟨I1, e1, c1, ts1, f1, g1⟩ := num_ok (σ := σ) (L := L) h.1 h.2.1 (lo := 0) (hi := 6) (Nat.zero_le _) ho (by omega)
  have p1 := h.go hla c1 ts1 f1
  obtain ⟨I2, e2, c2, ts2, f2, g2⟩ := exp_ok (σ := σ) (L := L) p1.1 p1.2.1
  have p2 := p1.go hla c2 ts2 f2
  obtain ⟨I3, e3, c3, ts3, f3, g3⟩ := exp_ok (σ := σ) (L := L) p2.1 p2.2.1
  have p3 := p2.go hla c3 ts3 f3
  obtain ⟨I4, T4, e4, p4, l4, a4, r4, s4, f4⟩ := sevl_ok (o := o) (h0 := h0) hla hg hoff ho hk6 h41 h44 hE c 0 (by omega) (L := L) p3 (a0 := T 7) (Nat.le_refl _) (RG.nil _ _ _ _) (SMn.nil _ _)
  have ll : ((3, o) :: (266, 486) :: (40, 0) :: ((p 0 ++ jr [(44, 0)] p 1 c) ++ [(41, 0)])).length = 3 + ((p 0).length + (jr [(44, 0)] p 1 c).length + 1) := by
    simp only [List.length_cons, List.length_append, List.length_nil]; omega
  refine ⟨I4, T4, ?_, ?_, ?_, a4, r4, s4, (f1.c3 hla).tr ((f2.c3 hla).tr ((f3.c3 hla).tr f4))⟩
  · show mX2_readOne_F (mg_X2_readEither (N + 1)) 282 (nI dp) (hk σ I L) = _
    have es : (mg_X2_readEither (N + 1)).2.2.2 282 (nI dp) (hk σ I L) = some (1, hk σ I4 L) := by
      show mX2_readSeveral_F (mg_X2_readEither N) 282 (nI dp) (hk σ I L) = _
      unfold mX2_readSeveral_F mX2_readSeveral_b49
      have e1 : mX2_number 282 (0 : Int32) (6 : Int32) (hk σ I L) = some (1, hk σ I1 L) := e1
      have e2 : mX2_expect 282 (266 : Int32) (hk σ I1 L) = some (1, hk σ I2 L) := e2
      have e3 : mX2_expect 282 (40 : Int32) (hk σ I2 L) = some (1, hk σ I3 L) := e3
      have e4 : mX2_readSeveral_l62 (mg_X2_readEither N) 282 (nI dp) (nI o) (1 : Int32) (hk σ I3 L) = some (1, hk σ I4 L) := e4
      rw [if_pos s282, e1, b2s, if_neg (by decide), gPI, obind, g1, e2, b2s, if_neg (by decide), at_kind p2.1 p2.2.1, obind, hdk_c, if_pos (by rfl), if_pos (show nI dp < (5 : Int32) from nI_lt (b := 5) hd (by omega)), e3, b2s, if_neg (by decide), e4]
    unfold mX2_readOne_F
    rw [if_pos s282, at_kind h.1 h.2.1, obind, hdk_c, if_pos (by rfl), es, b2s]
    rfl
  · rw [ll, show i + (3 + ((p 0).length + (jr [(44, 0)] p 1 c).length + 1)) = i + 1 + 1 + 1 + ((p 0).length + (jr [(44, 0)] p 1 c).length + 1) by omega]; exact p4
  · have l4' : T4 7 ≤ T 7 + ((p 0).length + (jr [(44, 0)] p 1 c).length + 1) := l4
    have ll' := ll
    omega
end G5
