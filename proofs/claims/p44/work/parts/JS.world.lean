/-! THE WORLD AT THE START -/
section World
variable {s : State} {args : Array Value}
theorem sel_sup {C : String} {x y z : MethodName} (hy : y.cls ≠ "java/lang/invoke/MethodHandle" ∧ y.cls ≠ "java/lang/invoke/VarHandle") (hz : z.cls = y.cls) (h1 : (Cond.selects C x z).before args s = true) (hpriv : (Cond.privateMethod y).before args s = true) (hinst : (Cond.instanceMethod y).before args s = true) : (Cond.selects C y y).before args s = true := by
  obtain ⟨c, r, m, hc, hr, hm, -, mk0, hk0, hni⟩ := Cond.selects_spec (args := args) (first := s) (o := none) (s := s) (idx := []) h1
  obtain ⟨mk, methM, hnamed, hmethM, -, -⟩ := Cond.instanceMethod_spec hinst
  have hfound : s.methodFound? y.cls y.name y.desc = some mk := State.methodFound?_of_named hnamed hy
  have hcls : mk.cls = m.cls := by
    have q1 := findClass_of_methodNamed hnamed
    have q2 := findClass_of_methodNamed hm
    rw [hz] at q2
    exact Option.some.inj (q1.symm.trans q2)
  have hsel : selectMethod {} s.vm c mk = .method mk := selectMethod_private hmethM (Cond.privateMethod_at hpriv mk methM hnamed hmethM)
  simp only [Cond.before, Cond.holds, Cond.value, hc, hfound, hnamed, hsel, hcls, hk0]
  simp; exact hni
theorem sb_all (hts : ∀ w ∈ lw_tbl, w.before args s = true) : ∀ w ∈ sbSel, w.before args s = true := by
  intro w hw
  obtain ⟨y, hy, rfl⟩ := List.mem_map.mp hw
  unfold sbPriv at hy
  simp only [List.map_cons, List.map_nil, List.mem_cons, List.not_mem_nil, or_false] at hy
  rcases hy with rfl | rfl | rfl | rfl | rfl | rfl
  · exact sel_sup (x := ⟨"java/lang/AbstractStringBuilder", "isLatin1", "()Z"⟩) (z := ⟨"java/lang/AbstractStringBuilder", "isLatin1", "()Z"⟩) (by decide +kernel) (by decide +kernel) (hts _ (in_t4 _ (List.mem_of_getElem? (i := 105) (by decide +kernel)))) (hts _ (in_t4 _ (List.mem_of_getElem? (i := 67) (by decide +kernel)))) (hts _ (in_t4 _ (List.mem_of_getElem? (i := 68) (by decide +kernel))))
  · exact sel_sup (x := ⟨"java/lang/AbstractStringBuilder", "isLatin1", "()Z"⟩) (z := ⟨"java/lang/AbstractStringBuilder", "isLatin1", "()Z"⟩) (by decide +kernel) (by decide +kernel) (hts _ (in_t4 _ (List.mem_of_getElem? (i := 105) (by decide +kernel)))) (hts _ (in_t4 _ (List.mem_of_getElem? (i := 71) (by decide +kernel)))) (hts _ (in_t4 _ (List.mem_of_getElem? (i := 72) (by decide +kernel))))
  · exact sel_sup (x := ⟨"java/lang/AbstractStringBuilder", "isLatin1", "()Z"⟩) (z := ⟨"java/lang/AbstractStringBuilder", "isLatin1", "()Z"⟩) (by decide +kernel) (by decide +kernel) (hts _ (in_t4 _ (List.mem_of_getElem? (i := 105) (by decide +kernel)))) (hts _ (in_t4 _ (List.mem_of_getElem? (i := 132) (by decide +kernel)))) (hts _ (in_t4 _ (List.mem_of_getElem? (i := 133) (by decide +kernel))))
  · exact sel_sup (x := ⟨"java/lang/AbstractStringBuilder", "isLatin1", "()Z"⟩) (z := ⟨"java/lang/AbstractStringBuilder", "isLatin1", "()Z"⟩) (by decide +kernel) (by decide +kernel) (hts _ (in_t4 _ (List.mem_of_getElem? (i := 105) (by decide +kernel)))) (hts _ (in_t4 _ (List.mem_of_getElem? (i := 128) (by decide +kernel)))) (hts _ (in_t4 _ (List.mem_of_getElem? (i := 129) (by decide +kernel))))
  · exact sel_sup (x := ⟨"java/lang/AbstractStringBuilder", "isLatin1", "()Z"⟩) (z := ⟨"java/lang/AbstractStringBuilder", "isLatin1", "()Z"⟩) (by decide +kernel) (by decide +kernel) (hts _ (in_t4 _ (List.mem_of_getElem? (i := 105) (by decide +kernel)))) (hts _ (in_t4 _ (List.mem_of_getElem? (i := 75) (by decide +kernel)))) (hts _ (in_t4 _ (List.mem_of_getElem? (i := 76) (by decide +kernel))))
  · exact sel_sup (x := ⟨"java/lang/AbstractStringBuilder", "isLatin1", "()Z"⟩) (z := ⟨"java/lang/AbstractStringBuilder", "isLatin1", "()Z"⟩) (by decide +kernel) (by decide +kernel) (hts _ (in_t4 _ (List.mem_of_getElem? (i := 105) (by decide +kernel)))) (hts _ (in_t4 _ (List.mem_of_getElem? (i := 124) (by decide +kernel)))) (hts _ (in_t4 _ (List.mem_of_getElem? (i := 125) (by decide +kernel))))
theorem tb_all (hts : ∀ w ∈ lw_tbl, w.before args s = true) : ∀ w ∈ TB, w.before args s = true := by
  intro w hw
  rcases List.mem_append.mp (List.mem_filter.mp hw).1 with h | h
  · exact hts w h
  · exact sb_all hts w h
theorem uk_of {c N n : Nat} {C : String} {T : u_T} {ty : Nat → FieldType} (hts : ∀ w ∈ lw_tbl, w.before args s = true) (cf : CF c C T N ty) (hi : Cond.instantiable C n ∈ lw_tbl) : ∃ q : ClassId × (Nat → Nat), ∀ r : vw_C, (cls0.map Prod.fst)[c]? = some r → u_Kn s r.1 r.2.1 r.2.2 q.1 q.2 := by
  obtain ⟨cC, iS, h⟩ := u_known (ws := TB) (tb_all hts) cf.2.1 (hts _ hi)
  refine ⟨(cC, iS), fun r hr => ?_⟩
  have e : (cls0.map Prod.fst)[c]? = some (C, T, N) := by rw [List.getElem?_map, cf.1]; rfl
  rw [e] at hr
  have hr := Option.some.inj hr
  subst hr
  exact h
theorem uk_all (hts : ∀ w ∈ lw_tbl, w.before args s = true) : ∃ D : Nat → ClassId × (Nat → Nat), ∀ (c : Nat) (r : vw_C), (cls0.map Prod.fst)[c]? = some r → u_Kn s r.1 r.2.1 r.2.2 (D c).1 (D c).2 := by
  have h : ∀ c : Nat, ∃ q : ClassId × (Nat → Nat), ∀ r : vw_C, (cls0.map Prod.fst)[c]? = some r → u_Kn s r.1 r.2.1 r.2.2 q.1 q.2 := by
    intro c
    match c with
    | 0 => exact uk_of hts cf0 (n := 5) (in_t2 _ (List.mem_of_getElem? (i := 152) (by decide +kernel)))
    | 1 => exact uk_of hts cf1 (n := 20) (in_t1 _ (List.mem_of_getElem? (i := 180) (by decide +kernel)))
    | 2 => exact uk_of hts cf2 (n := 9) (in_t2 _ (List.mem_of_getElem? (i := 114) (by decide +kernel)))
    | 3 => exact uk_of hts cf3 (n := 5) (in_t2 _ (List.mem_of_getElem? (i := 207) (by decide +kernel)))
    | 4 => exact uk_of hts cf4 (n := 7) (in_t1 _ (List.mem_of_getElem? (i := 151) (by decide +kernel)))
    | 5 => exact uk_of hts cf5 (n := 15) (in_t2 _ (List.mem_of_getElem? (i := 50) (by decide +kernel)))
    | 6 => exact uk_of hts cf6 (n := 6) (in_t2 _ (List.mem_of_getElem? (i := 231) (by decide +kernel)))
    | 7 => exact uk_of hts cf7 (n := 2) (in_t1 _ (List.mem_of_getElem? (i := 51) (by decide +kernel)))
    | 8 => exact uk_of hts cf8 (n := 5) (in_t1 _ (List.mem_of_getElem? (i := 67) (by decide +kernel)))
    | 9 => exact uk_of hts cf9 (n := 5) (in_t2 _ (List.mem_of_getElem? (i := 180) (by decide +kernel)))
    | 10 => exact uk_of hts cf10 (n := 1) (in_t1 _ (List.mem_of_getElem? (i := 186) (by decide +kernel)))
    | 11 => exact uk_of hts cf11 (n := 18) (in_t1 _ (List.mem_of_getElem? (i := 45) (by decide +kernel)))
    | 12 => exact uk_of hts cf12 (n := 9) (in_t6 _ (List.mem_of_getElem? (i := 20) (by decide +kernel)))
    | 13 => exact uk_of hts cf13 (n := 3) (in_t5 _ (List.mem_of_getElem? (i := 72) (by decide +kernel)))
    | 14 => exact uk_of hts cf14 (n := 5) (in_t4 _ (List.mem_of_getElem? (i := 173) (by decide +kernel)))
    | 15 => exact uk_of hts cf15 (n := 12) (in_t1 _ (List.mem_of_getElem? (i := 37) (by decide +kernel)))
    | 16 => exact uk_of hts cf16 (n := 4) (in_t4 _ (List.mem_of_getElem? (i := 27) (by decide +kernel)))
    | 17 => exact uk_of hts cf17 (n := 4) (in_t4 _ (List.mem_of_getElem? (i := 224) (by decide +kernel)))
    | 18 => exact uk_of hts cf18 (n := 3) (in_t3 _ (List.mem_of_getElem? (i := 175) (by decide +kernel)))
    | 19 => exact uk_of hts cf19 (n := 4) (in_t5 _ (List.mem_of_getElem? (i := 153) (by decide +kernel)))
    | c + 20 => exact ⟨(0, fun _ => 0), fun r hr => by cases hr⟩
  exact Classical.axiomOfChoice h
theorem ac_prim {ty : FieldType} (h : (Cond.arrayClass ty).before args s = true) : ∃ cA, ArrOfT s cA ty ∧ s.vm.findClass ("[" ++ ty.toString) = some cA := by
  obtain ⟨c, k, comp, h1, h2, h3⟩ := Cond.arrayClass_spec h
  exact ⟨c, fun n z => ⟨(fun k h => by cases h), k, h2, comp, h3⟩, h1⟩
theorem ac_over {C : String} (h : (Cond.arrayOver (.object C)).before args s = true) : ∃ cA, ArrOfT s cA (.object C) ∧ va_RA s cA (.object C) := by
  obtain ⟨comp, c, k, h1, h2, h3, h4, h5⟩ := Cond.arrayOver_spec h
  exact ⟨c, fun n z => ⟨(fun k h => by cases h), k, h3, comp, h4⟩, k, comp, h3, h4, h1, h5⟩
theorem ac_over2 (h : (Cond.arrayOver (.array .boolean)).before args s = true) : ∃ cA, ArrOfT s cA (.array .boolean) ∧ va_RA s cA (.array .boolean) := by
  obtain ⟨comp, c, k, h1, h3, h4, h5⟩ := Cond.arrayOver_specA h
  exact ⟨c, fun n z => ⟨(fun k h => by cases h), k, h3, comp, h4⟩, h5⟩
theorem kOk_at (hts : ∀ w ∈ lw_tbl, w.before args s = true) : ∃ (D : va_G) (A : Nat → ClassId), ∀ w : Wd, wD w = D → wA w = A → kOk w s := by
  obtain ⟨D, hD⟩ := uk_all hts
  obtain ⟨a50, p50, q50⟩ := ac_prim (hts _ (in_t1 _ (List.mem_of_getElem? (i := 65) (by decide +kernel))) : (Cond.arrayClass .int).before args s = true)
  obtain ⟨a51, p51, q51⟩ := ac_prim (hts _ (in_t1 _ (List.mem_of_getElem? (i := 178) (by decide +kernel))) : (Cond.arrayClass .long).before args s = true)
  obtain ⟨a52, p52, q52⟩ := ac_prim (hts _ (in_t4 _ (List.mem_of_getElem? (i := 2) (by decide +kernel))) : (Cond.arrayClass .boolean).before args s = true)
  obtain ⟨a53, p53, q53⟩ := ac_prim (hts _ (in_t1 _ (List.mem_of_getElem? (i := 149) (by decide +kernel))) : (Cond.arrayClass .byte).before args s = true)
  obtain ⟨a79, p79, q79⟩ := ac_over2 (hts _ (in_t3 _ (List.mem_of_getElem? (i := 204) (by decide +kernel))) : (Cond.arrayOver (.array .boolean)).before args s = true)
  obtain ⟨a65, p65, q65⟩ := ac_over (hts _ (in_t2 _ (List.mem_of_getElem? (i := 158) (by decide +kernel))) : (Cond.arrayOver (.object RX5)).before args s = true)
  obtain ⟨a70, p70, q70⟩ := ac_over (hts _ (in_t1 _ (List.mem_of_getElem? (i := 196) (by decide +kernel))) : (Cond.arrayOver (.object RX10)).before args s = true)
  obtain ⟨a73, p73, q73⟩ := ac_over (hts _ (in_t5 _ (List.mem_of_getElem? (i := 87) (by decide +kernel))) : (Cond.arrayOver (.object RX13)).before args s = true)
  obtain ⟨a78, p78, q78⟩ := ac_over (hts _ (in_t5 _ (List.mem_of_getElem? (i := 136) (by decide +kernel))) : (Cond.arrayOver (.object "java/lang/Object")).before args s = true)
  refine ⟨((fun c => (D c).1), (fun c => (D c).2)), (fun k => if k = 50 then a50 else if k = 51 then a51 else if k = 52 then a52 else if k = 53 then a53 else if k = 79 then a79 else if k = 65 then a65 else if k = 70 then a70 else if k = 73 then a73 else a78), fun w h1 h2 => ⟨⟨fun c r hr => ?_, fun k q hq => ?_⟩, fun c hc => ?_⟩⟩
  · rw [h1]; exact hD c r hr
  · have e : tys0 w = [(a50, .int), (a51, .long), (a52, .boolean), (a53, .byte), (a79, .array .boolean), (a65, .object RX5), (a70, .object RX10), (a73, .object RX13), (a78, .object "java/lang/Object")] := by
      unfold tys0
      rw [h2]
      rfl
    rw [e] at hq
    match k with
    | 0 => have hq : ((a50, .int) : ClassId × FieldType) = q := Option.some.inj hq; subst hq; exact ⟨p50, q50⟩
    | 1 => have hq : ((a51, .long) : ClassId × FieldType) = q := Option.some.inj hq; subst hq; exact ⟨p51, q51⟩
    | 2 => have hq : ((a52, .boolean) : ClassId × FieldType) = q := Option.some.inj hq; subst hq; exact ⟨p52, q52⟩
    | 3 => have hq : ((a53, .byte) : ClassId × FieldType) = q := Option.some.inj hq; subst hq; exact ⟨p53, q53⟩
    | 4 => have hq : ((a79, .array .boolean) : ClassId × FieldType) = q := Option.some.inj hq; subst hq; exact ⟨p79, q79⟩
    | 5 => have hq : ((a65, .object RX5) : ClassId × FieldType) = q := Option.some.inj hq; subst hq; exact ⟨p65, q65⟩
    | 6 => have hq : ((a70, .object RX10) : ClassId × FieldType) = q := Option.some.inj hq; subst hq; exact ⟨p70, q70⟩
    | 7 => have hq : ((a73, .object RX13) : ClassId × FieldType) = q := Option.some.inj hq; subst hq; exact ⟨p73, q73⟩
    | 8 => have hq : ((a78, .object "java/lang/Object") : ClassId × FieldType) = q := Option.some.inj hq; subst hq; exact ⟨p78, q78⟩
    | k + 9 => cases hq
  · have h1 := hts c (List.mem_filter.mp hc).1
    have h2 := (List.mem_filter.mp hc).2
    cases c <;> first | (exact Bool.noConfusion h2) | exact h1
/-- a text -/
theorem strOf {tm : Term} {N : Nat} {byt : Nat → Int32} {A : Nat → Prop} (hN : N < 2 ^ 31) (hex : (Cond.exactly tm "java/lang/String").before args s = true) (hco : (Cond.eq (.field tm "java/lang/String" "coder" "B") (.int 0)).before args s = true) (har : (Cond.arrayOf (.field tm "java/lang/String" "value" "[B") .byte).before args s = true)
    (hle : (Cond.eq (.length (.field tm "java/lang/String" "value" "[B")) (.int (Int32.ofNat N))).before args s = true) (hel : ∀ j : Nat, j < N → (Cond.eq (.elem (.field tm "java/lang/String" "value" "[B") (.int (Int32.ofNat j))) (.int (byt j))).before args s = true) (hA : ∀ a : Nat, a < s.heap.size → ¬ A a) :
    ∃ q : Nat × Nat, tm.eval args s none [] s = some (.ref q.1) ∧ va_O "java/lang/String" q.1 A s s.heap ∧ va_OF "java/lang/String" "coder" "B" (.int 0) q.1 A s s.heap ∧ va_OF "java/lang/String" "value" "[B" (.ref q.2) q.1 A s s.heap ∧ va_T .byte q.2 N (fun j => .int (byt j)) A s s.heap := by
  obtain ⟨a, c, cA, kA, q1, q2, q3, q4, q5, q6, -⟩ := Cond.exactly_spec (args := args) (first := s) (o := none) (s := s) (idx := []) (t := tm) (cls := "java/lang/String") hex
  obtain ⟨t, ht, hT⟩ := va_Tof (f := fun j => .int (byt j)) (A := A) hN har (va_eqt hle) (fun j hj => va_eqt (hel j hj)) hA
  exact ⟨(a, t), q1, va_Oof hex q1 hA, vk_OFof q1 (va_eqt hco) hA, vk_OFof q1 ht hA, hT⟩
end World
