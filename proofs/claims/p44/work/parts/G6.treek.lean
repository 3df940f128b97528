/-! THE TOKENS OF WHAT IS SAID, read -/
def wrK (k : Nat) (x : List (Nat × Nat)) : List (Nat × Nat) := if k ≤ 1 then x else (40, 0) :: (x ++ [(41, 0)])
def kA : (d : Nat) → Tr d → List (Nat × Nat)
  | 0, t => [(2, tL t + 1)]
  | d + 1, t => if tK t = 0 then [(2, tF t + 1)] else if tK t = 1 then (33, 0) :: wrK (kd d (tP t 0)) (kA d (tP t 0)) else if tK t = 4 then (3, tF t) :: (266, 486) :: (40, 0) :: (jn [(44, 0)] (fun i => kA d (tP t i)) (tM t) ++ [(41, 0)]) else jn (if tK t = 2 then [(38, 0)] else [(124, 0)]) (fun i => wrK (kd d (tP t i)) (kA d (tP t i))) (tM t)
def kO (d : Nat) (t : Tr d) : List (Nat × Nat) := wrK (kd d t) (kA d t)
def badV (c : Nat) : Bool := decide (c = 38) || decide (1000 ≤ c)
def badE (c : Nat) : Bool := badV c || decide (c = 124)
theorem badV_f {c : Nat} (h : badV c = false) : c ≠ 38 ∧ c < 1000 := by
  unfold badV at h
  rw [Bool.or_eq_false_iff, decide_eq_false_iff_not, decide_eq_false_iff_not] at h
  omega
theorem badE_f {c : Nat} (h : badE c = false) : badV c = false ∧ c ≠ 124 ∧ c < 1000 := by
  unfold badE at h
  rw [Bool.or_eq_false_iff, decide_eq_false_iff_not] at h
  exact ⟨h.1, h.2, (badV_f h.1).2⟩
section G6
variable {σ : Sg} {I I' I1 I2 I3 : Nat → Nat → Int32} {L L' L1 L2 : Nat → Nat → Int64} {X : Nat → Nat} {n m i la off t1 t2 h0 N dp k : Nat} {R R' Rk : List (Nat × Nat)} {T T' : Nat → Nat} {bad : Nat → Bool} {sem sem' : Nat → Bool} {f : Hp → Option (Int32 × Hp)}
theorem RD.sw (h : RD σ X n m la off t1 t2 f Rk bad h0 sem) (e : ∀ w, sem w = sem' w) : RD σ X n m la off t1 t2 f Rk bad h0 sem' := by
  have : sem = sem' := funext e
  rw [← this]; exact h
theorem every_1 (hla : isLa la) (hg : gpl σ = la) (hoff : off ≤ 480) (hO : ∀ h, h ≤ h0 + 1 → RD σ X n m la off t1 t2 (fun hp => (mg_X2_readEither N).2.2.1 282 (nI dp) hp) Rk (fun _ => false) h sem) : RD σ X n m la off t1 t2 (fun hp => (mg_X2_readEither (N + 1)).2.1 282 (nI dp) hp) Rk badV h0 sem :=
  RD.sw (every_ok (k := 1) (p := fun _ => Rk) (s := fun _ => sem) hla hg hoff rfl (fun _ _ h hh => hO h hh) (fun c hc => ⟨rfl, badV_f hc⟩) (Nat.le_refl _)) (fun w => by show (true && sem w) = _; rw [Bool.true_and])
theorem either_1 (hla : isLa la) (hg : gpl σ = la) (hoff : off ≤ 480) (hE : ∀ h, h ≤ h0 + 1 → RD σ X n m la off t1 t2 (fun hp => (mg_X2_readEither N).2.1 282 (nI dp) hp) Rk badV h sem) : RD σ X n m la off t1 t2 (fun hp => (mg_X2_readEither (N + 1)).1 282 (nI dp) hp) Rk badE h0 sem :=
  RD.sw (either_ok (k := 1) (p := fun _ => Rk) (s := fun _ => sem) hla hg hoff rfl (fun _ _ h hh => hE h hh) (fun c hc => badE_f hc) (Nat.le_refl _)) (fun w => by show (false || sem w) = _; rw [Bool.false_or])
theorem either_one (hla : isLa la) (hg : gpl σ = la) (hoff : off ≤ 480) (hO : ∀ h, h ≤ h0 + 2 → RD σ X n m la off t1 t2 (fun hp => (mg_X2_readEither N).2.2.1 282 (nI dp) hp) Rk (fun _ => false) h sem) : RD σ X n m la off t1 t2 (fun hp => (mg_X2_readEither (N + 2)).1 282 (nI dp) hp) Rk badE h0 sem :=
  either_1 hla hg hoff fun h hh => every_1 hla hg hoff fun h' hh' => hO h' (by omega)
theorem all_cnt (p : Nat → Bool) : ∀ n, allB p n = decide (cntB p n = n)
  | 0 => rfl
  | n + 1 => by
    have ih := all_cnt p n
    have le := cntB_le p n
    show (allB p n && p n) = decide (cntB p n + (if p n = true then 1 else 0) = n + 1)
    rw [ih]
    cases h : p n
    · rw [Bool.and_false, if_neg (by decide)]
      exact (decide_eq_false (by omega)).symm
    · rw [Bool.and_true, if_pos rfl]
      exact decide_eq_decide.mpr (by omega)
theorem any_cnt (p : Nat → Bool) (n : Nat) : anyB p n = decide (0 < cntB p n) := by
  cases h : anyB p n
  · rw [cntB_0.mpr h]; rfl
  · refine (decide_eq_true ?_).symm
    have : cntB p n ≠ 0 := fun z => by rw [cntB_0.mp z] at h; cases h
    omega
def rdE (σ : Sg) (X : Nat → Nat) (n m la off t1 t2 d : Nat) : Prop := ∀ (N dp h0 : Nat) (T : Tr d), 4 * d + 3 ≤ N → dp + 2 * d ≤ 5 → h0 + 5 * d ≤ 40 → okT t1 d T → RD σ X n m la off t1 t2 (fun hp => (mg_X2_readEither N).1 282 (nI dp) hp) (kA d T) badE h0 (hT d T)
def rdO (σ : Sg) (X : Nat → Nat) (n m la off t1 t2 d : Nat) : Prop := ∀ (N dp h0 : Nat) (T : Tr d), 4 * d + 4 ≤ N → (d ≠ 0 → dp + 2 * d + 1 ≤ 5) → h0 + 5 * d ≤ 40 → okT t1 d T → RD σ X n m la off t1 t2 (fun hp => (mg_X2_readEither N).2.2.1 282 (nI dp) hp) (kO d T) (fun _ => false) h0 (hT d T)
theorem read_d (hla : isLa la) (hg : gpl σ = la) (hoff : off ≤ 480) (ht : t1 ≤ 8) : ∀ d, rdE σ X n m la off t1 t2 d ∧ rdO σ X n m la off t1 t2 d
  | 0 => by
    have one : ∀ (N dp h0 : Nat) (T : Tr 0), 1 ≤ N → h0 ≤ 52 → okT t1 0 T → RD σ X n m la off t1 t2 (fun hp => (mg_X2_readEither N).2.2.1 282 (nI dp) hp) (kA 0 T) (fun _ => false) h0 (hT 0 T) := fun N dp h0 T hN h50 ok => by
      obtain ⟨M, rfl⟩ : ∃ M, N = M + 1 := ⟨N - 1, by omega⟩
      exact one_fact hla hg hoff ok ht (by omega) _
    refine ⟨fun N dp h0 T hN _ h50 ok => ?_, fun N dp h0 T hN _ h50 ok => ?_⟩
    · obtain ⟨M, rfl⟩ : ∃ M, N = M + 2 := ⟨N - 2, by omega⟩
      exact either_one hla hg hoff fun h hh => one M dp h T (by omega) (by omega) ok
    · exact one N dp h0 T (by omega) (by omega) ok
  | d + 1 => by
    obtain ⟨iE, iO⟩ := read_d hla hg hoff ht d
    -- what is read as one
    have one : ∀ (N dp h0 : Nat) (T : Tr (d + 1)), 4 * d + 5 ≤ N → dp + 2 * (d + 1) ≤ 5 → h0 + 5 * (d + 1) ≤ 42 → okT t1 (d + 1) T → (tK T = 0 ∨ tK T = 1 ∨ tK T = 4) → RD σ X n m la off t1 t2 (fun hp => (mg_X2_readEither N).2.2.1 282 (nI dp) hp) (kA (d + 1) T) (fun _ => false) h0 (hT (d + 1) T) := fun N dp h0 T hN hdp h50 ok hk => by
      obtain ⟨a1, a2, a3, a4⟩ := ok
      show RD σ X n m la off t1 t2 (fun hp => (mg_X2_readEither N).2.2.1 282 (nI dp) hp) (if tK T = 0 then [(2, tF T + 1)] else if tK T = 1 then (33, 0) :: wrK (kd d (tP T 0)) (kA d (tP T 0)) else if tK T = 4 then (3, tF T) :: (266, 486) :: (40, 0) :: (jn [(44, 0)] (fun i => kA d (tP T i)) (tM T) ++ [(41, 0)]) else jn (if tK T = 2 then [(38, 0)] else [(124, 0)]) (fun i => wrK (kd d (tP T i)) (kA d (tP T i))) (tM T)) (fun _ => false) h0
        (fun w => if tK T = 0 then w.testBit (tF T) else if tK T = 1 then decide (cntB (fun i => hT d (tP T i) w) (tM T) = 0) else if tK T = 2 then decide (cntB (fun i => hT d (tP T i) w) (tM T) = tM T) else if tK T = 3 then decide (0 < cntB (fun i => hT d (tP T i) w) (tM T)) else decide (tF T ≤ cntB (fun i => hT d (tP T i) w) (tM T)))
      by_cases q0 : tK T = 0
      · obtain ⟨M, rfl⟩ : ∃ M, N = M + 1 := ⟨N - 1, by omega⟩
        rw [if_pos q0]
        exact (one_fact hla hg hoff (a2 q0) ht (by omega) _).sw (fun w => by rw [if_pos q0])
      · obtain ⟨m1, m3, m4, m2, okp⟩ := a3 q0
        rw [if_neg q0]
        by_cases q1 : tK T = 1
        · obtain ⟨M, rfl⟩ : ∃ M, N = M + 1 := ⟨N - 1, by omega⟩
          rw [if_pos q1]
          have z := one_not (bad := fun _ => false) hla hg hoff (dp := dp) (by omega) (iO M (dp + 1) h0 (tP T 0) (by omega) (fun _ => by omega) (by omega) (okp 0 (by omega)))
          refine RD.sw z (fun w => ?_)
          rw [if_neg q0, if_pos q1, m4 q1]
          have bb : ∀ b : Bool, (!b) = decide (0 + (if b = true then 1 else 0) = 0) := by decide
          exact bb (hT d (tP T 0) w)
        · have q4 : tK T = 4 := by omega
          obtain ⟨M, rfl⟩ : ∃ M, N = M + 2 := ⟨N - 2, by omega⟩
          rw [if_neg q1, if_pos q4]
          have z := one_sev (bad := fun _ => false) (bi := badE) (o := tF T) (p := fun i => kA d (tP T i)) (s := fun i => hT d (tP T i)) hla hg hoff (dp := dp) (h0 := h0) (by omega) (by have := a4 q4; omega) m1 (by omega) (by decide) (by decide) (fun i hi h hh => iE M (dp + 1) h (tP T i) (by omega) (by omega) (by omega) (okp i hi))
          refine RD.sw z (fun w => ?_)
          rw [if_neg q0, if_neg q1, if_neg (by omega), if_neg (by omega)]
    have hE : rdE σ X n m la off t1 t2 (d + 1) := fun N dp h0 T hN hdp h50 ok => by
      by_cases hk : tK T = 0 ∨ tK T = 1 ∨ tK T = 4
      · obtain ⟨M, rfl⟩ : ∃ M, N = M + 2 := ⟨N - 2, by omega⟩
        exact either_one hla hg hoff fun h hh => one M dp h T (by omega) hdp (by omega) ok hk
      · obtain ⟨a1, a2, a3, a4⟩ := ok
        have q0 : tK T ≠ 0 := fun z => hk (Or.inl z)
        have q1 : tK T ≠ 1 := fun z => hk (Or.inr (Or.inl z))
        have q4 : tK T ≠ 4 := fun z => hk (Or.inr (Or.inr z))
        obtain ⟨m1, m3, m4, m2, okp⟩ := a3 q0
        show RD σ X n m la off t1 t2 (fun hp => (mg_X2_readEither N).1 282 (nI dp) hp) (if tK T = 0 then [(2, tF T + 1)] else if tK T = 1 then (33, 0) :: wrK (kd d (tP T 0)) (kA d (tP T 0)) else if tK T = 4 then (3, tF T) :: (266, 486) :: (40, 0) :: (jn [(44, 0)] (fun i => kA d (tP T i)) (tM T) ++ [(41, 0)]) else jn (if tK T = 2 then [(38, 0)] else [(124, 0)]) (fun i => wrK (kd d (tP T i)) (kA d (tP T i))) (tM T)) badE h0
          (fun w => if tK T = 0 then w.testBit (tF T) else if tK T = 1 then decide (cntB (fun i => hT d (tP T i) w) (tM T) = 0) else if tK T = 2 then decide (cntB (fun i => hT d (tP T i) w) (tM T) = tM T) else if tK T = 3 then decide (0 < cntB (fun i => hT d (tP T i) w) (tM T)) else decide (tF T ≤ cntB (fun i => hT d (tP T i) w) (tM T)))
        rw [if_neg q0, if_neg q1, if_neg q4]
        by_cases q2 : tK T = 2
        · obtain ⟨M, rfl⟩ : ∃ M, N = M + 2 := ⟨N - 2, by omega⟩
          rw [if_pos q2]
          have z := either_1 (σ := σ) (X := X) (n := n) (m := m) (t1 := t1) (t2 := t2) (h0 := h0) (N := M + 1) (dp := dp) hla hg hoff fun h hh => every_ok (k := tM T) (p := fun i => kO d (tP T i)) (s := fun i => hT d (tP T i)) (bad := badV) hla hg hoff rfl (fun i hi h' hh' => iO M dp h' (tP T i) (by omega) (fun _ => by omega) (by omega) (okp i hi)) (fun c hc => ⟨rfl, badV_f hc⟩) m1
          refine RD.sw z (fun w => ?_)
          rw [if_neg q0, if_neg q1, if_pos q2, all_cnt]
        · have q3 : tK T = 3 := by omega
          obtain ⟨M, rfl⟩ : ∃ M, N = M + 2 := ⟨N - 2, by omega⟩
          rw [if_neg q2]
          have z := either_ok (σ := σ) (X := X) (n := n) (m := m) (t1 := t1) (t2 := t2) (h0 := h0) (N := M + 1) (dp := dp) (k := tM T) (p := fun i => kO d (tP T i)) (s := fun i => hT d (tP T i)) (bi := badV) (bad := badE) hla hg hoff rfl (fun i hi h' hh' => every_1 hla hg hoff fun h'' hh'' => iO M dp h'' (tP T i) (by omega) (fun _ => by omega) (by omega) (okp i hi)) (fun c hc => badE_f hc) m1
          refine RD.sw z (fun w => ?_)
          rw [if_neg q0, if_neg q1, if_neg q2, if_pos q3, any_cnt]
    refine ⟨hE, fun N dp h0 T hN hdp h50 ok => ?_⟩
    have hdp := hdp (by omega)
    unfold kO wrK
    by_cases q : kd (d + 1) T ≤ 1
    · rw [if_pos q]
      have q : tK T ≤ 1 := q
      exact one N dp h0 T (by omega) (by omega) (by omega) ok (by omega)
    · obtain ⟨M, rfl⟩ : ∃ M, N = M + 1 := ⟨N - 1, by omega⟩
      rw [if_neg q]
      exact one_par (bi := badE) hla hg hoff (by omega) (by decide) (hE M (dp + 1) h0 T (by omega) (by omega) (by omega) ok)
/-- an EXPR of what is said, as the class reads one -/
theorem read_tree {d : Nat} {T : Tr d} (hla : isLa la) (hg : gpl σ = la) (hoff : off ≤ 480) (ht : t1 ≤ 8) (hd : d ≤ 2) (ok : okT t1 d T) : RD σ X n m la off t1 t2 (fun hp => mX2_readEither 40 282 (0 : Int32) hp) (kA d T) badE 0 (hT d T) :=
  (read_d hla hg hoff ht d).1 40 0 0 T (by omega) (by omega) (by omega) ok
end G6
