/-! what is only read -/
def fl0 : List Cond := flatC (Jvm.Cond.and given_1 narrow_1)
def bsZq (i : Nat) : Nat := [286, 800, 356, 362, 369, 376, 389, 414, 426, 439, 453, 472, 488, 506, 524, 548, 573, 594, 622, 651, 681, 710, 740, 768].getD i 0
def poZq (i : Nat) : Nat := [0, 24, 1, 2, 3, 4, 5, 7, 8, 9, 10, 11, 12, 13, 14, 15, 16, 17, 18, 19, 20, 21, 22, 23].getD i 0
def tmS (i : Nat) : Term := Term.string (strs0.getD (poZq i) ("", 0, "", 0)).1 (strs0.getD (poZq i) ("", 0, "", 0)).2.1
theorem fl_ex : ∀ i, i < 24 → fl0[bsZq i]? = some (Cond.exactly (tmS i) "java/lang/String") ∧ fl0[bsZq i + 1]? = some (Cond.eq (.field (tmS i) "java/lang/String" "coder" "B") (.int 0)) ∧ fl0[bsZq i + 2]? = some (Cond.arrayOf (.field (tmS i) "java/lang/String" "value" "[B") .byte) ∧ fl0[bsZq i + 3]? = some (Cond.eq (.length (.field (tmS i) "java/lang/String" "value" "[B")) (.int (Int32.ofNat (zLen i)))) := by decide +kernel
theorem fl_el : ∀ i, i < 24 → ∀ j, j < zLen i → fl0[bsZq i + 4 + j]? = some (Cond.eq (.elem (.field (tmS i) "java/lang/String" "value" "[B") (.int (Int32.ofNat j))) (.int (zByte i j))) := by decide +kernel
theorem fl_so : ∀ j, j < 6 → fl0[12 + j]? = some (Cond.eq (.elem (.static "StruckCounts$Worlds" "SO" "[J") (.int (Int32.ofNat j))) (.long (soT j))) := by decide +kernel
theorem fl_on : ∀ j, j < 100 → fl0[25 + j]? = some (Cond.eq (.elem (.static "java/lang/Integer" "DigitOnes" "[B") (.int (Int32.ofNat j))) (.int (dgO j))) := by decide +kernel
theorem fl_te : ∀ j, j < 100 → fl0[128 + j]? = some (Cond.eq (.elem (.static "java/lang/Integer" "DigitTens" "[B") (.int (Int32.ofNat j))) (.int (dgT j))) := by decide +kernel
theorem fl_fix : fl0[4]? = some (Cond.eq (.static "java/lang/String" "COMPACT_STRINGS" "Z") (.int 1)) ∧ fl0[5]? = some (Cond.isRef (.static "jdk/internal/util/Preconditions" "SIOOBE_FORMATTER" "Ljava/util/function/BiFunction;")) ∧ fl0[10]? = some (Cond.arrayOf (.static "StruckCounts$Worlds" "SO" "[J") .long) ∧ fl0[11]? = some (Cond.eq (.length (.static "StruckCounts$Worlds" "SO" "[J")) (.int (Int32.ofNat 6))) := by decide +kernel
theorem fl_fix2 : fl0[19]? = some (Cond.arrayOf (.static "java/util/ArrayList" "DEFAULTCAPACITY_EMPTY_ELEMENTDATA" "[Ljava/lang/Object;") (.object "java/lang/Object")) ∧ fl0[21]? = some (Cond.eq (.length (.static "java/util/ArrayList" "DEFAULTCAPACITY_EMPTY_ELEMENTDATA" "[Ljava/lang/Object;")) (.int (Int32.ofNat 0))) ∧ fl0[23]? = some (Cond.arrayOf (.static "java/lang/Integer" "DigitOnes" "[B") .byte) ∧ fl0[24]? = some (Cond.eq (.length (.static "java/lang/Integer" "DigitOnes" "[B")) (.int (Int32.ofNat 100))) ∧ fl0[126]? = some (Cond.arrayOf (.static "java/lang/Integer" "DigitTens" "[B") .byte) ∧ fl0[127]? = some (Cond.eq (.length (.static "java/lang/Integer" "DigitTens" "[B")) (.int (Int32.ofNat 100))) ∧ fl0[411]? = some (Cond.eq (Term.string "StruckCountsLaw" 125) (Term.string "StruckCountsLaw$Said" 46)) := by decide +kernel
theorem strs_in : ∀ q ∈ strs0, Cond.stringRef q.1 q.2.1 q.2.2.1 ∈ lw_tbl := by
  intro q hq
  unfold strs0 at hq
  simp only [List.mem_cons, List.not_mem_nil, or_false] at hq
  rcases hq with rfl | rfl | rfl | rfl | rfl | rfl | rfl | rfl | rfl | rfl | rfl | rfl | rfl | rfl | rfl | rfl | rfl | rfl | rfl | rfl | rfl | rfl | rfl | rfl | rfl
  · exact in_t1 _ (List.mem_of_getElem? (i := 75) (by decide +kernel))
  · exact in_t4 _ (List.mem_of_getElem? (i := 32) (by decide +kernel))
  · exact in_t4 _ (List.mem_of_getElem? (i := 33) (by decide +kernel))
  · exact in_t4 _ (List.mem_of_getElem? (i := 34) (by decide +kernel))
  · exact in_t4 _ (List.mem_of_getElem? (i := 201) (by decide +kernel))
  · exact in_t5 _ (List.mem_of_getElem? (i := 199) (by decide +kernel))
  · exact in_t5 _ (List.mem_of_getElem? (i := 222) (by decide +kernel))
  · exact in_t5 _ (List.mem_of_getElem? (i := 226) (by decide +kernel))
  · exact in_t5 _ (List.mem_of_getElem? (i := 232) (by decide +kernel))
  · exact in_t5 _ (List.mem_of_getElem? (i := 233) (by decide +kernel))
  · exact in_t5 _ (List.mem_of_getElem? (i := 235) (by decide +kernel))
  · exact in_t5 _ (List.mem_of_getElem? (i := 237) (by decide +kernel))
  · exact in_t5 _ (List.mem_of_getElem? (i := 238) (by decide +kernel))
  · exact in_t5 _ (List.mem_of_getElem? (i := 239) (by decide +kernel))
  · exact in_t6 _ (List.mem_of_getElem? (i := 9) (by decide +kernel))
  · exact in_t6 _ (List.mem_of_getElem? (i := 10) (by decide +kernel))
  · exact in_t6 _ (List.mem_of_getElem? (i := 14) (by decide +kernel))
  · exact in_t6 _ (List.mem_of_getElem? (i := 15) (by decide +kernel))
  · exact in_t6 _ (List.mem_of_getElem? (i := 16) (by decide +kernel))
  · exact in_t6 _ (List.mem_of_getElem? (i := 17) (by decide +kernel))
  · exact in_t6 _ (List.mem_of_getElem? (i := 18) (by decide +kernel))
  · exact in_t6 _ (List.mem_of_getElem? (i := 51) (by decide +kernel))
  · exact in_t6 _ (List.mem_of_getElem? (i := 52) (by decide +kernel))
  · exact in_t6 _ (List.mem_of_getElem? (i := 53) (by decide +kernel))
  · exact in_t6 _ (List.mem_of_getElem? (i := 109) (by decide +kernel))
theorem nw_cast {a b : String} {A : Array Value} {U : State} (h : (Cond.castable a b).before A U = true) : va_Nw (Cond.castable a b) U := h
theorem ao2_of {A : Array Value} {U : State} (h : (Cond.arrayOver (.array .boolean)).before A U = true) : va_AO2 U := h
def rI (xs : Nat → Int32) : Nat → Nat → Int32 := fun a j => if a = 1 then xs j else 0
def rL : Nat → Nat → Int64 := fun a j => if a = 2 then soT j else 0
theorem S0_sh {m : Nat} {xs : Nat → Int32} {a : Nat} (h1 : a ≠ 1) (h2 : a ≠ 2) : hpS (S0 m (rI xs) rL) a = (0, 0) := by
  show (if a = 1 then ((80, m) : Nat × Nat) else if a = 2 then (81, 6) else (0, 0)) = (0, 0)
  rw [if_neg h1, if_neg h2]
theorem ro_start {s : State} {b n : Nat} {xs : Nat → Int32} (hts : ∀ w ∈ lw_tbl, w.before #[Value.ref b] s = true) (hg : (Jvm.Cond.and given_1 narrow_1).before #[Value.ref b] s = true) (hX : va_X b n xs s s.heap) (hb : b < s.heap.size) (D : va_G) (A : Nat → ClassId) :
    ∃ w : Wd, wD w = D ∧ wA w = A ∧ wBase w = s.heap.size ∧ vR w 1 = .ref b ∧ hOk w (S0 n (rI xs) rL) s.heap ∧ roOk w s s.heap := by
  have hs := flat_of_before _ hg
  have at0 : ∀ {i : Nat} {c : Cond}, fl0[i]? = some c → c.before #[Value.ref b] s = true := fun h => hs _ (List.mem_of_getElem? h)
  obtain ⟨f4, f5, f10, f11⟩ := fl_fix
  obtain ⟨d19, d21, o23, o24, t26, t27, eqS⟩ := fl_fix2
  have hA : ∀ a : Nat, a < s.heap.size → ¬ (s.heap.size ≤ a) := fun a h => Nat.not_le.mpr h
  have hstr : ∀ i : Nat, ∃ q : Nat × Nat, i < 24 → (tmS i).eval #[Value.ref b] s none [] s = some (.ref q.1) ∧ va_O "java/lang/String" q.1 (fun q => s.heap.size ≤ q) s s.heap ∧ va_OF "java/lang/String" "coder" "B" (.int 0) q.1 (fun q => s.heap.size ≤ q) s s.heap ∧ va_OF "java/lang/String" "value" "[B" (.ref q.2) q.1 (fun q => s.heap.size ≤ q) s s.heap ∧ va_T .byte q.2 (zLen i) (fun j => .int (zByte i j)) (fun q => s.heap.size ≤ q) s s.heap := by
    intro i
    by_cases hi : i < 24
    · obtain ⟨e1, e2, e3, e4⟩ := fl_ex i hi
      have hl : ∀ i, i < 24 → zLen i < 2 ^ 31 := by decide +kernel
      obtain ⟨q, hq⟩ := strOf (N := zLen i) (byt := zByte i) (A := fun q => s.heap.size ≤ q) (hl i hi) (at0 e1) (at0 e2) (at0 e3) (at0 e4) (fun j hj => at0 (fl_el i hi j hj)) hA
      exact ⟨q, fun _ => hq⟩
    · exact ⟨(0, 0), fun h => absurd h hi⟩
  obtain ⟨ad, had⟩ := Classical.axiomOfChoice hstr
  obtain ⟨tS, vS, TS⟩ := va_Tof (f := fun j => .long (soT j)) (A := fun q => s.heap.size ≤ q) (by omega) (at0 f10) (va_eqt (at0 f11)) (fun j hj => va_eqtl (at0 (fl_so j hj))) hA
  obtain ⟨tD, vD, TD'⟩ := va_Tof (f := fun _ => .null) (A := fun q => s.heap.size ≤ q) (by omega) (at0 d19) (va_eqt (at0 d21)) (fun j hj => absurd hj (Nat.not_lt_zero _)) hA
  obtain ⟨tO, vO, TO⟩ := va_Tof (f := fun j => .int (dgO j)) (A := fun q => s.heap.size ≤ q) (by omega) (at0 o23) (va_eqt (at0 o24)) (fun j hj => va_eqt (at0 (fl_on j hj))) hA
  obtain ⟨tT, vT, TT'⟩ := va_Tof (f := fun j => .int (dgT j)) (A := fun q => s.heap.size ≤ q) (by omega) (at0 t26) (va_eqt (at0 t27)) (fun j hj => va_eqt (at0 (fl_te j hj))) hA
  have ZS : va_Z "StruckCounts$Worlds" "SO" "[J" (.ref tS) (fun q => s.heap.size ≤ q) s s.heap := va_Zof (hts _ (in_t3 _ (List.mem_of_getElem? (i := 51) (by decide +kernel)))) (hts _ (in_t1 _ (List.mem_of_getElem? (i := 10) (by decide +kernel)))) vS hA
  have ZD : va_Z "java/util/ArrayList" "DEFAULTCAPACITY_EMPTY_ELEMENTDATA" "[Ljava/lang/Object;" (.ref tD) (fun q => s.heap.size ≤ q) s s.heap := va_Zof (hts _ (in_t3 _ (List.mem_of_getElem? (i := 187) (by decide +kernel)))) (hts _ (in_t1 _ (List.mem_of_getElem? (i := 19) (by decide +kernel)))) vD hA
  have ZO : va_Z "java/lang/Integer" "DigitOnes" "[B" (.ref tO) (fun q => s.heap.size ≤ q) s s.heap := va_Zof (hts _ (in_t5 _ (List.mem_of_getElem? (i := 50) (by decide +kernel)))) (hts _ (in_t1 _ (List.mem_of_getElem? (i := 28) (by decide +kernel)))) vO hA
  have ZT : va_Z "java/lang/Integer" "DigitTens" "[B" (.ref tT) (fun q => s.heap.size ≤ q) s s.heap := va_Zof (hts _ (in_t5 _ (List.mem_of_getElem? (i := 52) (by decide +kernel)))) (hts _ (in_t1 _ (List.mem_of_getElem? (i := 28) (by decide +kernel)))) vT hA
  have ZC : va_Z "java/lang/String" "COMPACT_STRINGS" "Z" (.int 1) (fun q => s.heap.size ≤ q) s s.heap := va_Zof (hts _ (in_t1 _ (List.mem_of_getElem? (i := 85) (by decide +kernel)))) (hts _ (in_t1 _ (List.mem_of_getElem? (i := 4) (by decide +kernel)))) (va_eqi (at0 f4)) hA
  have ZF : ∃ f6 tF : Nat, (f6 = 0 ∨ f6 = 7) ∧ va_Z "jdk/internal/util/Preconditions" "SIOOBE_FORMATTER" "Ljava/util/function/BiFunction;" (if f6 = 0 then .null else .ref tF) (fun q => s.heap.size ≤ q) s s.heap := by
    rcases va_Zqof (A := fun q => s.heap.size ≤ q) (hts _ (in_t1 _ (List.mem_of_getElem? (i := 101) (by decide +kernel)))) (hts _ (in_t1 _ (List.mem_of_getElem? (i := 6) (by decide +kernel)))) (at0 f5) hA with h | ⟨t, h⟩
    · exact ⟨0, 0, Or.inl rfl, h⟩
    · exact ⟨7, t, Or.inr rfl, h⟩
  obtain ⟨f6, tF, h6, ZF⟩ := ZF
  obtain ⟨sp, hsp⟩ : ∃ sp : Nat → Nat, sp = fun a => if a = 1 then b else if a = 2 then tS else if a = 4 then tD else if a = 5 then tT else if a = 6 then tO else if a = 7 then tF else if a < 40 then (ad (a - 10)).1 else (ad (a - 40)).2 := ⟨_, rfl⟩
  obtain ⟨w, hw⟩ : ∃ w : Wd, w = (s.heap.size, sp, D, A, ((S0 n (rI xs) rL).1, rI xs, rL, (fun a _ => if a = 1000 then f6 else 0), 99, 0)) := ⟨_, rfl⟩
  have wb : wBase w = s.heap.size := by rw [hw]; rfl
  have ar : wArea w = fun q => s.heap.size ≤ q := by unfold wArea; rw [wb]
  have adr0 : ∀ a, a < 99 → adr w a = sp a := fun a ha => by unfold adr; rw [if_pos ha, hw]; rfl
  have a1 : adr w 1 = b := by rw [adr0 1 (by omega), hsp]; rfl
  have a2 : adr w 2 = tS := by rw [adr0 2 (by omega), hsp]; rfl
  have a4 : adr w 4 = tD := by rw [adr0 4 (by omega), hsp]; rfl
  have a5 : adr w 5 = tT := by rw [adr0 5 (by omega), hsp]; rfl
  have a6 : adr w 6 = tO := by rw [adr0 6 (by omega), hsp]; rfl
  have a7 : adr w 7 = tF := by rw [adr0 7 (by omega), hsp]; rfl
  have a10 : ∀ i, i < 24 → adr w (10 + i) = (ad i).1 := fun i hi => by
    rw [adr0 _ (by omega), hsp]
    show (if 10 + i = 1 then b else if 10 + i = 2 then tS else if 10 + i = 4 then tD else if 10 + i = 5 then tT else if 10 + i = 6 then tO else if 10 + i = 7 then tF else if 10 + i < 40 then (ad (10 + i - 10)).1 else (ad (10 + i - 40)).2) = _
    rw [if_neg (by omega), if_neg (by omega), if_neg (by omega), if_neg (by omega), if_neg (by omega), if_neg (by omega), if_pos (by omega), Nat.add_sub_cancel_left]
  have a40 : ∀ i, i < 24 → adr w (40 + i) = (ad i).2 := fun i hi => by
    rw [adr0 _ (by omega), hsp]
    show (if 40 + i = 1 then b else if 40 + i = 2 then tS else if 40 + i = 4 then tD else if 40 + i = 5 then tT else if 40 + i = 6 then tO else if 40 + i = 7 then tF else if 40 + i < 40 then (ad (40 + i - 10)).1 else (ad (40 + i - 40)).2) = _
    rw [if_neg (by omega), if_neg (by omega), if_neg (by omega), if_neg (by omega), if_neg (by omega), if_neg (by omega), if_neg (by omega), Nat.add_sub_cancel_left]
  have roS : ∀ a, hpS (wRo w) a = hpS (S0 n (rI xs) rL) a := fun a => by rw [hw]; rfl
  have roI : ∀ a, hpI (wRo w) a = rI xs a := fun a => by rw [hw]; rfl
  have roL : ∀ a, hpL (wRo w) a = rL a := fun a => by rw [hw]; rfl
  have roR : ∀ a k, hpR (wRo w) a k = if a = 1000 then f6 else 0 := fun a k => by rw [hw]; rfl
  have TSl : tS < s.heap.size := by obtain ⟨cell, h, _⟩ := TS; exact (Array.getElem?_eq_some_iff.mp h).1
  refine ⟨w, by rw [hw]; rfl, by rw [hw]; rfl, wb, by rw [vR_pos (by omega), a1], ?_, ?_⟩
  · refine ⟨Nat.le_refl _, ?_, fun a h1 h2 => ?_, fun a h1 => ?_, fun a h1 => ⟨?_, ?_, fun k => ⟨?_, ?_, ?_⟩⟩, ?_⟩
    · rw [wb]
      show s.heap.size + 99 = 99 + s.heap.size
      omega
    · have h2 : a < 99 := h2
      omega
    · have h1 : 99 ≤ a := h1
      rw [S0_sh (by omega) (by omega)]
    · rw [roS a]
    · by_cases e1 : a = 1
      · subst e1; exact Or.inr (Nat.le_refl _)
      · by_cases e2 : a = 2
        · subst e2; exact Or.inr (by show 80 ≤ 81; omega)
        · rw [S0_sh e1 e2]; exact Or.inl rfl
    · rw [roI]; rfl
    · rw [roL]; rfl
    · rw [roR, if_neg (by omega)]; rfl
    · rfl
  · refine ⟨fun a ha => ⟨fun h => ?_, fun h => ?_, fun h => ?_⟩, by rw [a2, ar]; exact ZS, ⟨by rw [a4, ar]; exact ZD, by rw [a4, ar]; exact TD', by rw [a5, ar]; exact ZT, by rw [a5, ar]; exact TT', by rw [a6, ar]; exact ZO, by rw [a6, ar]; exact TO, ?_, va_AO.of (hts _ (in_t5 _ (List.mem_of_getElem? (i := 87) (by decide +kernel)))), va_AO.of (hts _ (in_t5 _ (List.mem_of_getElem? (i := 136) (by decide +kernel)))), va_Fw.of (hts _ (in_t5 _ (List.mem_of_getElem? (i := 174) (by decide +kernel)))) (hts _ (in_t5 _ (List.mem_of_getElem? (i := 173) (by decide +kernel)))) (hts _ (in_t5 _ (List.mem_of_getElem? (i := 179) (by decide +kernel)))) (hts _ (in_t5 _ (List.mem_of_getElem? (i := 177) (by decide +kernel)))) (hts _ (in_t5 _ (List.mem_of_getElem? (i := 175) (by decide +kernel)))), va_Fw.of (hts _ (in_t5 _ (List.mem_of_getElem? (i := 184) (by decide +kernel)))) (hts _ (in_t5 _ (List.mem_of_getElem? (i := 183) (by decide +kernel)))) (hts _ (in_t5 _ (List.mem_of_getElem? (i := 188) (by decide +kernel)))) (hts _ (in_t5 _ (List.mem_of_getElem? (i := 186) (by decide +kernel)))) (hts _ (in_t5 _ (List.mem_of_getElem? (i := 175) (by decide +kernel)))), nw_cast (hts _ (in_t9 _ (List.mem_of_getElem? (i := 125) (by decide +kernel)))), nw_cast (hts _ (in_t9 _ (List.mem_of_getElem? (i := 142) (by decide +kernel)))), nw_cast (hts _ (in_t4 _ (List.mem_of_getElem? (i := 94) (by decide +kernel))))⟩, by rw [ar]; exact ZC, ?_, fun i hi => ?_, fun q hq => ?_, ?_, ?_⟩
    · rw [roS a] at h ⊢
      by_cases e1 : a = 1
      · subst e1
        rw [a1, roI]
        exact hX
      · by_cases e2 : a = 2
        · subst e2; exact absurd h (by show ¬ (81 = 80); omega)
        · rw [S0_sh e1 e2] at h; exact absurd h (by show ¬ (0 = 80); omega)
    · rw [roS a] at h ⊢
      by_cases e1 : a = 1
      · subst e1; exact absurd h (by show ¬ (80 = 81); omega)
      · by_cases e2 : a = 2
        · subst e2
          rw [a2, ar, roL]
          exact TS
        · rw [S0_sh e1 e2] at h; exact absurd h (by show ¬ (0 = 81); omega)
    · rw [roS a] at h
      rw [wb]
      by_cases e1 : a = 1
      · subst e1; rw [a1]; exact hb
      · by_cases e2 : a = 2
        · subst e2; rw [a2]; exact TSl
        · rw [S0_sh e1 e2] at h; exact absurd rfl h
    · exact ao2_of (hts _ (in_t3 _ (List.mem_of_getElem? (i := 204) (by decide +kernel))))
    · rw [ar, roR, if_pos rfl]
      rcases h6 with rfl | rfl
      · exact ZF
      · rw [vR_pos (by omega), a7]; exact ZF
    · rw [a10 i hi, a40 i hi, ar]
      exact (had i hi).2
    · have hq2 : ∀ q ∈ strs0, q.2.2.2 < 24 ∧ (Term.string q.1 q.2.1 = tmS q.2.2.2 ∨ (Term.string q.1 q.2.1 = Term.string "StruckCountsLaw$Said" 46 ∧ tmS q.2.2.2 = Term.string "StruckCountsLaw" 125)) := by decide +kernel
      obtain ⟨g1, g2⟩ := hq2 q hq
      rw [a10 _ g1]
      refine vk_R.of (hts _ (strs_in q hq)) ?_
      rcases g2 with g2 | ⟨g2, g3⟩
      · rw [g2]; exact (had _ g1).1
      · rw [g2]
        have z := (had _ g1).1
        rw [g3] at z
        exact va_eqR (at0 eqS) z
    · exact va_AO.of (hts _ (in_t2 _ (List.mem_of_getElem? (i := 158) (by decide +kernel))))
    · exact va_AO.of (hts _ (in_t1 _ (List.mem_of_getElem? (i := 196) (by decide +kernel))))
