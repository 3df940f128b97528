/-! THE TEXT OF WHAT IS SAID, in tokens -/
abbrev wrr (k : Nat) (x : List Nat) : List Nat := wr k x
section G8
variable {d : Nat} {T : Tr d}
theorem Tp.wrp {k : Nat} {x : List Nat} {q : List (Nat × Nat)} (h : Tp x q) : Tp (wrr k x) (wrK k q) := by
  unfold wrr wr wrK
  by_cases c : k ≤ 1
  · rw [if_pos c, if_pos c]; exact h
  · rw [if_neg c, if_neg c]
    have e := (TpF.mk (c := 40) (by decide)).app (h.appF (TpF.mk (c := 41) (by decide)) (by decide) (by decide))
    exact e.tp
theorem tp_of : TpF [32, 111, 102, 32, 40] [(266, 486), (40, 0)] := by
  have h1 : Tp [111, 102] [(266, 486)] := Tp.lit (by decide +kernel)
  have h2 := (TpF.sp (c := 32) (Or.inl rfl)).app (TpF.mk (c := 40) (by decide))
  have h3 := h1.appF h2 (by decide) (by decide)
  exact (TpF.sp (c := 32) (Or.inl rfl)).app h3
theorem tp_tree : ∀ {d : Nat} {T : Tr d}, okT 8 d T → Tp (tA d T) (kA d T)
  | 0, T, ok => Tp.fact ok
  | d + 1, T, ok => by
    obtain ⟨a1, a2, a3, a4⟩ := ok
    show Tp (if tK T = 0 then [97 + tF T] else if tK T = 1 then 33 :: wrr (kd d (tP T 0)) (tA d (tP T 0)) else if tK T = 4 then (dcm (tF T) ++ [32, 111, 102, 32, 40]) ++ (jn [44] (fun i => tA d (tP T i)) (tM T) ++ [41]) else jn (sepT (tK T)) (fun i => wrr (kd d (tP T i)) (tA d (tP T i))) (tM T))
      (if tK T = 0 then [(2, tF T + 1)] else if tK T = 1 then (33, 0) :: wrK (kd d (tP T 0)) (kA d (tP T 0)) else if tK T = 4 then (3, tF T) :: (266, 486) :: (40, 0) :: (jn [(44, 0)] (fun i => kA d (tP T i)) (tM T) ++ [(41, 0)]) else jn (if tK T = 2 then [(38, 0)] else [(124, 0)]) (fun i => wrK (kd d (tP T i)) (kA d (tP T i))) (tM T))
    by_cases q0 : tK T = 0
    · rw [if_pos q0, if_pos q0]; exact Tp.fact (a2 q0)
    · obtain ⟨m1, m3, m4, m2, okp⟩ := a3 q0
      obtain ⟨c, hc⟩ : ∃ c, tM T = c + 1 := ⟨tM T - 1, by omega⟩
      rw [if_neg q0, if_neg q0]
      by_cases q1 : tK T = 1
      · rw [if_pos q1, if_pos q1]
        exact (TpF.mk (c := 33) (by decide)).appT (Tp.wrp (tp_tree (okp 0 (by omega))))
      · rw [if_neg q1, if_neg q1]
        by_cases q4 : tK T = 4
        · rw [if_pos q4, if_pos q4, hc]
          have h1 := (Tp.nm (v := tF T) (by have := a4 q4; omega)).appF tp_of (by decide) (by decide)
          have h2 := (Tp.jn (p := fun i => tA d (tP T i)) (q := fun i => kA d (tP T i)) (TpF.mk (c := 44) (by decide)) (by decide) (by decide) c (fun i hi => tp_tree (okp i (by omega)))).appF (TpF.mk (c := 41) (by decide)) (by decide) (by decide)
          exact (h1.app h2).tp
        · rw [if_neg q4, if_neg q4, hc]
          by_cases q2 : tK T = 2
          · have e : sepT (tK T) = [38] := by unfold sepT; rw [if_pos q2]
            rw [e, if_pos q2]
            exact Tp.jn (TpF.mk (c := 38) (by decide)) (by decide) (by decide) c (fun i hi => (tp_tree (okp i (by omega))).wrp)
          · have e : sepT (tK T) = [32, 124] := by unfold sepT; rw [if_neg q2, if_pos (by omega)]
            rw [e, if_neg q2]
            have s3 := (TpF.sp (c := 32) (Or.inl rfl)).app (TpF.mk (c := 124) (by decide))
            exact Tp.jn s3 (by decide) (by decide) c (fun i hi => (tp_tree (okp i (by omega))).wrp)
end G8
