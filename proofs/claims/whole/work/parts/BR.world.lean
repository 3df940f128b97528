/-! THE WORLD AT THE START -/
section World
variable {s : State} {args : Array Value}
theorem uk_of {c N n : Nat} {C : String} {T : u_T} {ty : Nat → FieldType} (hts : ∀ w ∈ lw_tbl, w.before args s = true) (cf : CF c C T N ty) (hi : Cond.instantiable C n ∈ lw_tbl) : ∃ q : ClassId × (Nat → Nat), ∀ r : vw_C, (cls0.map Prod.fst)[c]? = some r → u_Kn s r.1 r.2.1 r.2.2 q.1 q.2 := by
  obtain ⟨cC, iS, h⟩ := u_known (ws := TB) (fun w hw => hts w (List.mem_filter.mp hw).1) cf.2.1 (hts _ hi)
  refine ⟨(cC, iS), fun r hr => ?_⟩
  have e : (cls0.map Prod.fst)[c]? = some (C, T, N) := by rw [List.getElem?_map, cf.1]; rfl
  rw [e] at hr
  have hr := Option.some.inj hr
  subst hr
  exact h
theorem uk_all (hts : ∀ w ∈ lw_tbl, w.before args s = true) : ∃ D : Nat → ClassId × (Nat → Nat), ∀ (c : Nat) (r : vw_C), (cls0.map Prod.fst)[c]? = some r → u_Kn s r.1 r.2.1 r.2.2 (D c).1 (D c).2 := by
  have h : ∀ c : Nat, ∃ q : ClassId × (Nat → Nat), ∀ r : vw_C, (cls0.map Prod.fst)[c]? = some r → u_Kn s r.1 r.2.1 r.2.2 q.1 q.2 := by
    intro c
    match c with
    | 0 => exact uk_of hts cf0 (n := 5) (in_t2 _ (List.mem_of_getElem? (i := 132) (by decide +kernel)))
    | 1 => exact uk_of hts cf1 (n := 20) (in_t1 _ (List.mem_of_getElem? (i := 160) (by decide +kernel)))
    | 2 => exact uk_of hts cf2 (n := 9) (in_t2 _ (List.mem_of_getElem? (i := 94) (by decide +kernel)))
    | 3 => exact uk_of hts cf3 (n := 5) (in_t2 _ (List.mem_of_getElem? (i := 187) (by decide +kernel)))
    | 4 => exact uk_of hts cf4 (n := 7) (in_t1 _ (List.mem_of_getElem? (i := 131) (by decide +kernel)))
    | 5 => exact uk_of hts cf5 (n := 15) (in_t2 _ (List.mem_of_getElem? (i := 30) (by decide +kernel)))
    | 6 => exact uk_of hts cf6 (n := 6) (in_t2 _ (List.mem_of_getElem? (i := 211) (by decide +kernel)))
    | 7 => exact uk_of hts cf7 (n := 2) (in_t1 _ (List.mem_of_getElem? (i := 31) (by decide +kernel)))
    | 8 => exact uk_of hts cf8 (n := 5) (in_t1 _ (List.mem_of_getElem? (i := 47) (by decide +kernel)))
    | 9 => exact uk_of hts cf9 (n := 5) (in_t2 _ (List.mem_of_getElem? (i := 160) (by decide +kernel)))
    | 10 => exact uk_of hts cf10 (n := 1) (in_t1 _ (List.mem_of_getElem? (i := 166) (by decide +kernel)))
    | 11 => exact uk_of hts cf11 (n := 18) (in_t1 _ (List.mem_of_getElem? (i := 23) (by decide +kernel)))
    | 12 => exact uk_of hts cf12 (n := 42) (in_t6 _ (List.mem_of_getElem? (i := 174) (by decide +kernel)))
    | c + 13 => exact ⟨(0, fun _ => 0), fun r hr => by cases hr⟩
  exact Classical.axiomOfChoice h
theorem ac_prim {ty : FieldType} (h : (Cond.arrayClass ty).before args s = true) : ∃ cA, ArrOfT s cA ty ∧ s.vm.findClass ("[" ++ ty.toString) = some cA := by
  obtain ⟨c, k, comp, h1, h2, h3⟩ := Cond.arrayClass_spec h
  exact ⟨c, fun n z => ⟨(fun k h => by cases h), k, h2, comp, h3⟩, h1⟩
theorem ac_over {C : String} (h : (Cond.arrayOver (.object C)).before args s = true) : ∃ cA, ArrOfT s cA (.object C) ∧ va_RA s cA (.object C) := by
  obtain ⟨comp, c, k, h1, h2, h3, h4, h5⟩ := Cond.arrayOver_spec h
  exact ⟨c, fun n z => ⟨(fun k h => by cases h), k, h3, comp, h4⟩, k, comp, h3, h4, h1, h5⟩
theorem kOk_at (hts : ∀ w ∈ lw_tbl, w.before args s = true) : ∃ (D : va_G) (A : Nat → ClassId), ∀ w : Wd, wD w = D → wA w = A → kOk w s := by
  obtain ⟨D, hD⟩ := uk_all hts
  obtain ⟨a50, p50, q50⟩ := ac_prim (hts _ (in_t1 _ (List.mem_of_getElem? (i := 45) (by decide +kernel))) : (Cond.arrayClass .int).before args s = true)
  obtain ⟨a51, p51, q51⟩ := ac_prim (hts _ (in_t1 _ (List.mem_of_getElem? (i := 158) (by decide +kernel))) : (Cond.arrayClass .long).before args s = true)
  obtain ⟨a52, p52, q52⟩ := ac_prim (hts _ (in_t7 _ (List.mem_of_getElem? (i := 111) (by decide +kernel))) : (Cond.arrayClass .boolean).before args s = true)
  obtain ⟨a65, p65, q65⟩ := ac_over (hts _ (in_t2 _ (List.mem_of_getElem? (i := 138) (by decide +kernel))) : (Cond.arrayOver (.object RX5)).before args s = true)
  obtain ⟨a70, p70, q70⟩ := ac_over (hts _ (in_t1 _ (List.mem_of_getElem? (i := 176) (by decide +kernel))) : (Cond.arrayOver (.object RX10)).before args s = true)
  refine ⟨((fun c => (D c).1), (fun c => (D c).2)), (fun k => if k = 50 then a50 else if k = 51 then a51 else if k = 52 then a52 else if k = 65 then a65 else a70), fun w h1 h2 => ⟨⟨fun c r hr => ?_, fun k q hq => ?_⟩, fun c hc => ?_⟩⟩
  · rw [h1]; exact hD c r hr
  · have e : tys0 w = [(a50, .int), (a51, .long), (a52, .boolean), (a65, .object RX5), (a70, .object RX10)] := by
      unfold tys0
      rw [h2]
      rfl
    rw [e] at hq
    match k with
    | 0 => have hq : ((a50, .int) : ClassId × FieldType) = q := Option.some.inj hq; subst hq; exact ⟨p50, q50⟩
    | 1 => have hq : ((a51, .long) : ClassId × FieldType) = q := Option.some.inj hq; subst hq; exact ⟨p51, q51⟩
    | 2 => have hq : ((a52, .boolean) : ClassId × FieldType) = q := Option.some.inj hq; subst hq; exact ⟨p52, q52⟩
    | 3 => have hq : ((a65, .object RX5) : ClassId × FieldType) = q := Option.some.inj hq; subst hq; exact ⟨p65, q65⟩
    | 4 => have hq : ((a70, .object RX10) : ClassId × FieldType) = q := Option.some.inj hq; subst hq; exact ⟨p70, q70⟩
    | k + 5 => cases hq
  · have h1 := hts c (List.mem_filter.mp hc).1
    have h2 := (List.mem_filter.mp hc).2
    cases c <;> first | (exact Bool.noConfusion h2) | exact h1
/-- a text -/
theorem strOf {tm : Term} {N : Nat} {byt : Nat → Int32} {A : Nat → Prop} (hN : N < 2 ^ 31) (hex : (Cond.exactly tm "java/lang/String").before args s = true) (hco : (Cond.eq (.field tm "java/lang/String" "coder" "B") (.int 0)).before args s = true) (har : (Cond.arrayOf (.field tm "java/lang/String" "value" "[B") .byte).before args s = true)
    (hle : (Cond.eq (.length (.field tm "java/lang/String" "value" "[B")) (.int (Int32.ofNat N))).before args s = true) (hel : ∀ j : Nat, j < N → (Cond.eq (.elem (.field tm "java/lang/String" "value" "[B") (.int (Int32.ofNat j))) (.int (byt j))).before args s = true) (hA : ∀ a : Nat, a < s.heap.size → ¬ A a) :
    ∃ q : Nat × Nat, tm.eval args s none [] s = some (.ref q.1) ∧ va_O "java/lang/String" q.1 A s s.heap ∧ va_OF "java/lang/String" "coder" "B" (.int 0) q.1 A s s.heap ∧ va_OF "java/lang/String" "value" "[B" (.ref q.2) q.1 A s s.heap ∧ va_T .byte q.2 N (fun j => .int (byt j)) A s s.heap := by
  obtain ⟨a, c, cA, kA, q1, q2, q3, q4, q5, q6, -⟩ := Cond.exactly_spec (args := args) (first := s) (o := none) (s := s) (idx := []) (t := tm) (cls := "java/lang/String") hex
  obtain ⟨t, ht, hT⟩ := va_Tof (f := fun j => .int (byt j)) (A := A) hN har (va_eqt hle) (fun j hj => va_eqt (hel j hj)) hA
  exact ⟨(a, t), q1, va_Oof hex q1 hA, vk_OFof q1 (va_eqt hco) hA, vk_OFof q1 ht hA, hT⟩
/-- a table of ints that is only read -/
theorem ints_of {tm : Term} {N : Nat} {f : Nat → Int32} (hN : N < 2 ^ 31) (harr : (Cond.arrayOf tm .int).before args s = true) (hle : (Cond.eq (.length tm) (.int (Int32.ofNat N))).before args s = true) (hel : ∀ j : Nat, j < N → (Cond.eq (.elem tm (.int (Int32.ofNat j))) (.int (f j))).before args s = true) : ∃ t : Nat, tm.eval args s none [] s = some (.ref t) ∧ va_X t N f s s.heap ∧ t < s.heap.size := by
  have hlen := va_eqt hle
  obtain ⟨t, ht, cell, h1, h2, h3, h4, h5, h6, -⟩ := va_Tof (f := fun j => .int (f j)) (A := fun _ => False) hN harr hlen (fun j hj => va_eqt (hel j hj)) (fun _ _ h => h)
  obtain ⟨t2, cell2, ht2, hat, hv⟩ := Term.length_spec hlen
  have e1 : t = t2 := by
    have := ht.symm.trans ht2
    cases this
    rfl
  subst e1
  have e2 : cell2 = cell := Option.some.inj ((State.arrayAt?_spec hat).1.symm.trans h1)
  subst e2
  have hsz : cell2.slots.size < 2 ^ 31 := by
    simp only [Term.eval, ht, hat, Option.bind_eq_bind, Option.bind_some] at hlen
    by_cases hlt : cell2.slots.size < 2147483648
    · exact hlt
    · simp [hlt] at hlen
  have e3 : cell2.slots.size = N := by
    have h7 := congrArg Int32.toInt h5
    have h8 : (cell2.slots.size.toInt32).toInt = (cell2.slots.size : Int) := Int32.toInt_ofNat_small hsz
    have h9 : (Int32.ofNat N).toInt = (N : Int) := Int32.toInt_ofNat_small hN
    omega
  exact ⟨t, ht, ⟨cell2, h1, h2, h3, e3, h6⟩, (Array.getElem?_eq_some_iff.mp h1).1⟩
end World
/-! what is only read -/
def fl0 : List Cond := flatC (Jvm.Cond.and given_1 narrow_1)
def bsZq (i : Nat) : Nat := [30, 100, 112, 122, 134, 147, 161, 176, 192, 208, 225, 243, 263].getD i 0
def tmS (i : Nat) : Term := Term.string (strs0.getD i ("", 0, "", 0)).1 (strs0.getD i ("", 0, "", 0)).2.1
theorem fl_ex : ∀ i, i < 13 → fl0[bsZq i]? = some (Cond.exactly (tmS i) "java/lang/String") ∧ fl0[bsZq i + 1]? = some (Cond.eq (.field (tmS i) "java/lang/String" "coder" "B") (.int 0)) ∧ fl0[bsZq i + 2]? = some (Cond.arrayOf (.field (tmS i) "java/lang/String" "value" "[B") .byte) ∧ fl0[bsZq i + 3]? = some (Cond.eq (.length (.field (tmS i) "java/lang/String" "value" "[B")) (.int (Int32.ofNat (sLen i)))) := by decide +kernel
theorem fl_el : ∀ i, i < 13 → ∀ j, j < sLen i → fl0[bsZq i + 4 + j]? = some (Cond.eq (.elem (.field (tmS i) "java/lang/String" "value" "[B") (.int (Int32.ofNat j))) (.int (sByte i j))) := by decide +kernel
theorem fl_so : ∀ j, j < 6 → fl0[12 + j]? = some (Cond.eq (.elem (.static "StruckCounts$Worlds" "SO" "[J") (.int (Int32.ofNat j))) (.long (soT j))) := by decide +kernel
theorem fl_th : ∀ j, j < 9 → fl0[21 + j]? = some (Cond.eq (.elem (.static "StruckCountsModel" "THREES" "[I") (.int (Int32.ofNat j))) (.int (nI (3 ^ j)))) := by decide +kernel
theorem fl_fix : fl0[4]? = some (Cond.eq (.static "java/lang/String" "COMPACT_STRINGS" "Z") (.int 1)) ∧ fl0[5]? = some (Cond.isRef (.static "jdk/internal/util/Preconditions" "SIOOBE_FORMATTER" "Ljava/util/function/BiFunction;")) ∧ fl0[10]? = some (Cond.arrayOf (.static "StruckCounts$Worlds" "SO" "[J") .long) ∧ fl0[11]? = some (Cond.eq (.length (.static "StruckCounts$Worlds" "SO" "[J")) (.int (Int32.ofNat 6))) ∧ fl0[19]? = some (Cond.arrayOf (.static "StruckCountsModel" "THREES" "[I") .int) ∧ fl0[20]? = some (Cond.eq (.length (.static "StruckCountsModel" "THREES" "[I")) (.int (Int32.ofNat 9))) := by decide +kernel
theorem strs_in : ∀ q ∈ strs0, Cond.stringRef q.1 q.2.1 q.2.2.1 ∈ lw_tbl := by
  have h1 : ∀ q ∈ strs0, tables_1_1[55]? = some (Cond.stringRef q.1 q.2.1 q.2.2.1) ∨ tables_1_3[204]? = some (Cond.stringRef q.1 q.2.1 q.2.2.1) ∨ tables_1_7[145]? = some (Cond.stringRef q.1 q.2.1 q.2.2.1) ∨ ∃ i, i < 10 ∧ tables_1_7[179 + i]? = some (Cond.stringRef q.1 q.2.1 q.2.2.1) := by decide +kernel
  intro q hq
  rcases h1 q hq with h | h | h | ⟨i, _, h⟩
  · exact in_t1 _ (List.mem_of_getElem? h)
  · exact in_t3 _ (List.mem_of_getElem? h)
  · exact in_t7 _ (List.mem_of_getElem? h)
  · exact in_t7 _ (List.mem_of_getElem? h)
def rI (xs : Nat → Int32) : Nat → Nat → Int32 := fun a j => if a = 1 then xs j else if a = 3 then (if j ≤ 8 then nI (3 ^ j) else 0) else 0
def rL : Nat → Nat → Int64 := fun a j => if a = 2 then soT j else 0
theorem SH_lo (n : Nat) {a : Nat} (h : a < 100) (h1 : a ≠ 1) (h2 : a ≠ 2) (h3 : a ≠ 3) : SH n a = (0, 0) := by
  have hb : ∀ e ∈ fixL, 100 ≤ e.1 := by decide +kernel
  unfold SH SH0
  rw [if_neg h1, if_neg h2, if_neg h3, if_neg (by omega), if_neg (by omega), if_neg (by omega)]
  exact lookP_no _ fun e he z => by have := hb e he; omega
theorem ro_start {s : State} {b n : Nat} {xs : Nat → Int32} (hts : ∀ w ∈ lw_tbl, w.before #[Value.ref b] s = true) (hg : (Jvm.Cond.and given_1 narrow_1).before #[Value.ref b] s = true) (hX : va_X b n xs s s.heap) (hb : b < s.heap.size) (D : va_G) (A : Nat → ClassId) :
    ∃ w : Wd, wD w = D ∧ wA w = A ∧ wBase w = s.heap.size ∧ vR w 1 = .ref b ∧ hOk w (Qh n 100 0 [] (rI xs) rL) s.heap ∧ roOk w s s.heap := by
  have hs := flat_of_before _ hg
  have at0 : ∀ {i : Nat} {c : Cond}, fl0[i]? = some c → c.before #[Value.ref b] s = true := fun h => hs _ (List.mem_of_getElem? h)
  obtain ⟨f4, f5, f10, f11, f19, f20⟩ := fl_fix
  have hA : ∀ a : Nat, a < s.heap.size → ¬ (s.heap.size ≤ a) := fun a h => Nat.not_le.mpr h
  have hstr : ∀ i : Nat, ∃ q : Nat × Nat, i < 13 → (tmS i).eval #[Value.ref b] s none [] s = some (.ref q.1) ∧ va_O "java/lang/String" q.1 (fun q => s.heap.size ≤ q) s s.heap ∧ va_OF "java/lang/String" "coder" "B" (.int 0) q.1 (fun q => s.heap.size ≤ q) s s.heap ∧ va_OF "java/lang/String" "value" "[B" (.ref q.2) q.1 (fun q => s.heap.size ≤ q) s s.heap ∧ va_T .byte q.2 (sLen i) (fun j => .int (sByte i j)) (fun q => s.heap.size ≤ q) s s.heap := by
    intro i
    by_cases hi : i < 13
    · obtain ⟨e1, e2, e3, e4⟩ := fl_ex i hi
      have hl : ∀ i, i < 13 → sLen i < 2 ^ 31 := by decide +kernel
      obtain ⟨q, hq⟩ := strOf (N := sLen i) (byt := sByte i) (A := fun q => s.heap.size ≤ q) (hl i hi) (at0 e1) (at0 e2) (at0 e3) (at0 e4) (fun j hj => at0 (fl_el i hi j hj)) hA
      exact ⟨q, fun _ => hq⟩
    · exact ⟨(0, 0), fun h => absurd h hi⟩
  obtain ⟨ad, had⟩ := Classical.axiomOfChoice hstr
  obtain ⟨tS, vS, TS⟩ := va_Tof (f := fun j => .long (soT j)) (A := fun q => s.heap.size ≤ q) (by omega) (at0 f10) (va_eqt (at0 f11)) (fun j hj => va_eqtl (at0 (fl_so j hj))) hA
  obtain ⟨tH, vH, XH, hH⟩ := ints_of (N := 9) (f := fun j => nI (3 ^ j)) (by omega) (at0 f19) (at0 f20) (fun j hj => at0 (fl_th j hj))
  have ZS : va_Z "StruckCounts$Worlds" "SO" "[J" (.ref tS) (fun q => s.heap.size ≤ q) s s.heap := va_Zof (hts _ (in_t3 _ (List.mem_of_getElem? (i := 31) (by decide +kernel)))) (hts _ (in_t1 _ (List.mem_of_getElem? (i := 10) (by decide +kernel)))) vS hA
  have ZH : va_Z "StruckCountsModel" "THREES" "[I" (.ref tH) (fun q => s.heap.size ≤ q) s s.heap := va_Zof (hts _ (in_t9 _ (List.mem_of_getElem? (i := 20) (by decide +kernel)))) (hts _ (in_t1 _ (List.mem_of_getElem? (i := 17) (by decide +kernel)))) vH hA
  have ZC : va_Z "java/lang/String" "COMPACT_STRINGS" "Z" (.int 1) (fun q => s.heap.size ≤ q) s s.heap := va_Zof (hts _ (in_t1 _ (List.mem_of_getElem? (i := 65) (by decide +kernel)))) (hts _ (in_t1 _ (List.mem_of_getElem? (i := 4) (by decide +kernel)))) (va_eqi (at0 f4)) hA
  have ZF : ∃ f6 tF : Nat, (f6 = 0 ∨ f6 = 6) ∧ va_Z "jdk/internal/util/Preconditions" "SIOOBE_FORMATTER" "Ljava/util/function/BiFunction;" (if f6 = 0 then .null else .ref tF) (fun q => s.heap.size ≤ q) s s.heap := by
    rcases va_Zqof (A := fun q => s.heap.size ≤ q) (hts _ (in_t1 _ (List.mem_of_getElem? (i := 81) (by decide +kernel)))) (hts _ (in_t1 _ (List.mem_of_getElem? (i := 6) (by decide +kernel)))) (at0 f5) hA with h | ⟨t, h⟩
    · exact ⟨0, 0, Or.inl rfl, h⟩
    · exact ⟨6, t, Or.inr rfl, h⟩
  obtain ⟨f6, tF, h6, ZF⟩ := ZF
  obtain ⟨sp, hsp⟩ : ∃ sp : Nat → Nat, sp = fun a => if a = 1 then b else if a = 2 then tS else if a = 3 then tH else if a = 6 then tF else if a < 40 then (ad (a - 10)).1 else (ad (a - 40)).2 := ⟨_, rfl⟩
  obtain ⟨w, hw⟩ : ∃ w : Wd, w = (s.heap.size, sp, D, A, ((fun a => if a < 100 then SH n a else (0, 0)), rI xs, rL, (fun a _ => if a = 1000 then f6 else 0), 100, 0)) := ⟨_, rfl⟩
  have wb : wBase w = s.heap.size := by rw [hw]; rfl
  have ar : wArea w = fun q => s.heap.size ≤ q := by unfold wArea; rw [wb]
  have adr0 : ∀ a, a < 100 → adr w a = sp a := fun a ha => by unfold adr; rw [if_pos ha, hw]; rfl
  have a1 : adr w 1 = b := by rw [adr0 1 (by omega), hsp]; rfl
  have a2 : adr w 2 = tS := by rw [adr0 2 (by omega), hsp]; rfl
  have a3 : adr w 3 = tH := by rw [adr0 3 (by omega), hsp]; rfl
  have a6 : adr w 6 = tF := by rw [adr0 6 (by omega), hsp]; rfl
  have a10 : ∀ i, i < 13 → adr w (10 + i) = (ad i).1 := fun i hi => by
    rw [adr0 _ (by omega), hsp]
    show (if 10 + i = 1 then b else if 10 + i = 2 then tS else if 10 + i = 3 then tH else if 10 + i = 6 then tF else if 10 + i < 40 then (ad (10 + i - 10)).1 else (ad (10 + i - 40)).2) = _
    rw [if_neg (by omega), if_neg (by omega), if_neg (by omega), if_neg (by omega), if_pos (by omega), Nat.add_sub_cancel_left]
  have a40 : ∀ i, i < 13 → adr w (40 + i) = (ad i).2 := fun i hi => by
    rw [adr0 _ (by omega), hsp]
    show (if 40 + i = 1 then b else if 40 + i = 2 then tS else if 40 + i = 3 then tH else if 40 + i = 6 then tF else if 40 + i < 40 then (ad (40 + i - 10)).1 else (ad (40 + i - 40)).2) = _
    rw [if_neg (by omega), if_neg (by omega), if_neg (by omega), if_neg (by omega), if_neg (by omega), Nat.add_sub_cancel_left]
  have roS : ∀ a, a < 100 → hpS (wRo w) a = SH n a := fun a ha => by rw [hw]; exact if_pos ha
  have roI : ∀ a, hpI (wRo w) a = rI xs a := fun a => by rw [hw]; rfl
  have roL : ∀ a, hpL (wRo w) a = rL a := fun a => by rw [hw]; rfl
  have roR : ∀ a k, hpR (wRo w) a k = if a = 1000 then f6 else 0 := fun a k => by rw [hw]; rfl
  have TSl : tS < s.heap.size := by obtain ⟨cell, h, _⟩ := TS; exact (Array.getElem?_eq_some_iff.mp h).1
  refine ⟨w, by rw [hw]; rfl, by rw [hw]; rfl, wb, by rw [vR_pos (by omega), a1], ?_, ?_⟩
  · refine ⟨Nat.le_refl _, ?_, fun a h1 h2 => ?_, fun a h1 => ?_, fun a h1 => ⟨?_, ?_, fun k => ⟨?_, ?_, ?_⟩⟩, ?_⟩
    · rw [wb]
      show s.heap.size + 100 = 100 + s.heap.size
      omega
    · have h2 : a < 100 := h2
      omega
    · have h1 : 100 ≤ a := h1
      show (if a < 100 then SH n a else (0, 0)).1 = 0
      rw [if_neg (by omega)]
    · rw [roS a h1]
      exact if_pos h1
    · rw [hpS_Q h1]
      by_cases e1 : a = 1
      · subst e1; exact Or.inr (Nat.le_refl _)
      · by_cases e2 : a = 2
        · subst e2; exact Or.inr (by show 80 ≤ 81; omega)
        · by_cases e3 : a = 3
          · subst e3; exact Or.inr (Nat.le_refl _)
          · rw [SH_lo n h1 e1 e2 e3]; exact Or.inl rfl
    · rw [roI]; rfl
    · rw [roL]; rfl
    · rw [roR, if_neg (by omega)]; rfl
    · rw [hpS_Q (by omega)]
      rfl
  · refine ⟨fun a ha => ⟨fun h => ?_, fun h => ?_, fun h => ?_⟩, by rw [a2, ar]; exact ZS, by rw [a3, ar]; exact ZH, by rw [ar]; exact ZC, ?_, fun i hi => ?_, fun q hq => ?_, ?_, ?_⟩
    · rw [roS a ha] at h ⊢
      by_cases e1 : a = 1
      · subst e1
        rw [a1, roI]
        exact hX
      · by_cases e2 : a = 2
        · subst e2; exact absurd h (by show ¬ (81 = 80); omega)
        · by_cases e3 : a = 3
          · subst e3
            rw [a3, roI]
            obtain ⟨cell, x1, x2, x3, x4, x5⟩ := XH
            exact ⟨cell, x1, x2, x3, x4, fun j hj => by
              have hj : j < 9 := hj
              rw [x5 j hj]
              show _ = some (Value.int (if j ≤ 8 then nI (3 ^ j) else 0))
              rw [if_pos (by omega)]⟩
          · rw [SH_lo n ha e1 e2 e3] at h; exact absurd h (by show ¬ (0 = 80); omega)
    · rw [roS a ha] at h ⊢
      by_cases e1 : a = 1
      · subst e1; exact absurd h (by show ¬ (80 = 81); omega)
      · by_cases e2 : a = 2
        · subst e2
          rw [a2, ar, roL]
          exact TS
        · by_cases e3 : a = 3
          · subst e3; exact absurd h (by show ¬ (80 = 81); omega)
          · rw [SH_lo n ha e1 e2 e3] at h; exact absurd h (by show ¬ (0 = 81); omega)
    · rw [roS a ha] at h
      rw [wb]
      by_cases e1 : a = 1
      · subst e1; rw [a1]; exact hb
      · by_cases e2 : a = 2
        · subst e2; rw [a2]; exact TSl
        · by_cases e3 : a = 3
          · subst e3; rw [a3]; exact hH
          · rw [SH_lo n ha e1 e2 e3] at h; exact absurd rfl h
    · rw [ar, roR, if_pos rfl]
      rcases h6 with rfl | rfl
      · exact ZF
      · rw [vR_pos (by omega), a6]; exact ZF
    · rw [a10 i hi, a40 i hi, ar]
      exact (had i hi).2
    · have hq2 : ∀ q ∈ strs0, q.2.2.2 < 13 ∧ Term.string q.1 q.2.1 = tmS q.2.2.2 := by decide +kernel
      obtain ⟨g1, g2⟩ := hq2 q hq
      rw [a10 _ g1]
      exact vk_R.of (hts _ (strs_in q hq)) (by rw [g2]; exact (had _ g1).1)
    · exact va_AO.of (hts _ (in_t2 _ (List.mem_of_getElem? (i := 138) (by decide +kernel))))
    · exact va_AO.of (hts _ (in_t1 _ (List.mem_of_getElem? (i := 176) (by decide +kernel))))
