/-! THE WORLD OF A RUN: where the pure addresses lie in the machine, which class ids the tables have, and what is only read (below 99) -/
abbrev Wd : Type := Nat × (Nat → Nat) × va_G × (Nat → ClassId) × Hp
def wBase (w : Wd) : Nat := w.1
def wSp (w : Wd) : Nat → Nat := w.2.1
def wD (w : Wd) : va_G := w.2.2.1
def wA (w : Wd) : Nat → ClassId := w.2.2.2.1
def wRo (w : Wd) : Hp := w.2.2.2.2
def adr (w : Wd) (a : Nat) : Nat := if a < 99 then wSp w a else a - 99 + wBase w
def vR (w : Wd) (a : Nat) : Value := if a = 0 then .null else .ref (adr w a)
theorem vR_cat (w : Wd) (a : Nat) : (vR w a).category = 1 := by unfold vR; split <;> rfl
theorem vR_pos {w : Wd} {a : Nat} (h : a ≠ 0) : vR w a = .ref (adr w a) := if_neg h
def wArea (w : Wd) : Nat → Prop := fun q => wBase w ≤ q
def fKd (t : FieldType) : Nat := match t with
  | .long => 1
  | .object _ => 2
  | .array _ => 2
  | _ => 0
def slv (w : Wd) (h : Hp) (ty : Nat → FieldType) (a k : Nat) : Value := if fKd (ty k) = 1 then .long (hpL h a k) else if fKd (ty k) = 2 then vR w (hpR h a k) else .int (hpI h a k)
def arw (w : Wd) (h : Hp) (kd a j : Nat) : Value := if kd = 51 then .long (hpL h a j) else if kd < 60 then .int (hpI h a j) else vR w (hpR h a j)
/-- a cell of the machine is as the pure heap has it -/
def hCell (w : Wd) (h : Hp) (H : Heap) (a : Nat) : Prop :=
  ((hpS h a).1 ≠ 0 → (hpS h a).1 < 50 → ∃ q : vw_C × (Nat → FieldType), cls0[(hpS h a).1 - 1]? = some q ∧ t_OB (adr w a) ((wD w).1 ((hpS h a).1 - 1)) q.1.2.2 ((wD w).2 ((hpS h a).1 - 1)) H (slv w h q.2 a)) ∧
  (50 ≤ (hpS h a).1 → H[adr w a]? = some (arrV (wA w (hpS h a).1) (hpS h a).2 (arw w h (hpS h a).1 a)))
def hOk (w : Wd) (h : Hp) (H : Heap) : Prop :=
  99 ≤ hpN h ∧ H.size + 99 = hpN h + wBase w ∧ (∀ a, 99 ≤ a → a < hpN h → hCell w h H a ∧ (hpS h a).1 < 80) ∧ (∀ a, hpN h ≤ a → (hpS h a).1 = 0) ∧
  (∀ a, a < 99 → hpS h a = hpS (wRo w) a ∧ ((hpS h a).1 = 0 ∨ 80 ≤ (hpS h a).1) ∧ ∀ k, hpI h a k = hpI (wRo w) a k ∧ hpL h a k = hpL (wRo w) a k ∧ hpR h a k = hpR (wRo w) a k) ∧ (hpS h 0).1 = 0
/-- the machine's tables: classes, array classes, the words of nest mates -/
def tys0 (w : Wd) : List (ClassId × FieldType) := [(wA w 50, .int), (wA w 51, .long), (wA w 52, .boolean), (wA w 53, .byte), (wA w 79, .array .boolean)] ++ refs0.map (fun q => (wA w (60 + q.1), .object q.2))
def kOk (w : Wd) (U : State) : Prop := va_K (wD w) (cls0.map Prod.fst) (tys0 w) U ∧ ∀ c ∈ NW, va_Nw c U
theorem kOk.moved {w : Wd} {u U : State} (hW : u.WarmedH U.vm) (h : kOk w u) : kOk w U := ⟨va_K.moved hW.alike h.1, NW_warm hW h.2⟩
theorem va_Nw.calling {w : Cond} {U : State} {g : JFrame} {mk : MethodId} {a : Array Value} (hw : w.onTables = true) (h : va_Nw w U) : va_Nw w (U.calling g mk a) := va_Nw.same (u := U) (U := U.calling g mk a) hw rfl h
theorem NW_onT : ∀ w ∈ NW, w.onTables = true := by
  intro w hw
  have h2 := (List.mem_filter.mp hw).2
  cases w <;> first | (exact Bool.noConfusion h2) | rfl
theorem kOk.calling {w : Wd} {U : State} {g : JFrame} {mk : MethodId} {a : Array Value} (h : kOk w U) : kOk w (U.calling g mk a) :=
  ⟨va_K.moved (Vm.Alike.refl U.vm) h.1, fun c hc => va_Nw.calling (NW_onT c hc) (h.2 c hc)⟩
/-- the texts of the String constants -/
def zTxt : List (List Int32) := [[102, 97, 99, 116, 32, 32, 110, 101, 118, 101, 114, 32, 99, 111, 117, 110, 116, 32, 119, 111, 114, 116, 104, 32, 97, 114, 111, 115, 101, 32, 110, 101, 101, 100, 115, 32, 112, 108, 101, 97, 32, 32, 115, 97, 121, 115, 32, 32, 115, 97, 109, 101, 32, 32, 108, 105, 109, 105, 116, 32, 111, 102, 32, 32, 32, 32], [33, 38, 124, 40, 41, 44, 59], [32], [10], [], [102, 97, 99, 116, 32], [110, 101, 118, 101, 114, 32], [33], [40], [41], [32, 111, 102, 32, 40], [38], [32, 124], [44], [108, 105, 109, 105, 116, 32], [99, 111, 117, 110, 116, 32], [99], [32, 119, 111, 114, 116, 104, 32], [32, 97, 114, 111, 115, 101, 32], [32, 110, 101, 101, 100, 115, 32], [112, 108, 101, 97, 32], [115, 97, 121, 115, 32], [32, 33], [115, 97, 109, 101, 32]]
def zLen (i : Nat) : Nat := (zTxt.getD i []).length
def zByte (i j : Nat) : Int32 := (zTxt.getD i []).getD j 0
/-- read-only cells, at the start of a call -/
def roCell (w : Wd) (U : State) (H : Heap) (a : Nat) : Prop :=
  ((hpS (wRo w) a).1 = 80 → va_X (adr w a) (hpS (wRo w) a).2 (hpI (wRo w) a) U H) ∧ ((hpS (wRo w) a).1 = 81 → va_T .long (adr w a) (hpS (wRo w) a).2 (fun j => .long (hpL (wRo w) a j)) (wArea w) U H) ∧ ((hpS (wRo w) a).1 ≠ 0 → adr w a < wBase w)
/-- where the String constants stand: class, entry, text, which one -/
def strs0 : List (String × Nat × String × Nat) := [("StruckCounts$Tokens", 32, "fact  never count worth arose needs plea  says  same  limit of    ", 0), ("StruckCountsLaw", 121, " ", 2), ("StruckCountsLaw", 123, "\n", 3), ("StruckCountsLaw", 125, "", 4), ("StruckCountsLaw", 163, "fact ", 5), ("StruckCountsLaw", 183, "never ", 6), ("StruckCountsLaw$Said", 46, "", 4), ("StruckCountsLaw$Said", 51, "!", 7), ("StruckCountsLaw$Said", 35, "(", 8), ("StruckCountsLaw$Said", 41, ")", 9), ("StruckCountsLaw$Said", 59, " of (", 10), ("StruckCountsLaw$Said", 64, "&", 11), ("StruckCountsLaw$Said", 66, " |", 12), ("StruckCountsLaw$Said", 68, ",", 13), ("StruckCountsLaw", 198, "limit ", 14), ("StruckCountsLaw", 200, "count ", 15), ("StruckCountsLaw", 141, "c", 16), ("StruckCountsLaw", 205, " worth ", 17), ("StruckCountsLaw", 207, " arose ", 18), ("StruckCountsLaw", 209, " needs ", 19), ("StruckCountsLaw", 211, "plea ", 20), ("StruckCountsLaw", 233, "says ", 21), ("StruckCountsLaw", 235, " !", 22), ("StruckCountsLaw", 240, "same ", 23), ("StruckCounts$Tokens", 77, "!&|(),;", 1)]
/-- the digits of Integer -/
def dgT (j : Nat) : Int32 := Int32.ofNat (48 + j / 10)
def dgO (j : Nat) : Int32 := Int32.ofNat (48 + j % 10)
def va_AO2 (U : State) : Prop := (Cond.arrayOver (.array .boolean)).before #[] U = true
/-- all that stands outside and is only read: arrays, static fields, String constants -/
def roOk (w : Wd) (U : State) (H : Heap) : Prop :=
  (∀ a, a < 99 → roCell w U H a) ∧ va_Z "StruckCounts$Worlds" "SO" "[J" (.ref (adr w 2)) (wArea w) U H ∧ (va_Z "java/util/ArrayList" "DEFAULTCAPACITY_EMPTY_ELEMENTDATA" "[Ljava/lang/Object;" (.ref (adr w 4)) (wArea w) U H ∧ va_T (.object "java/lang/Object") (adr w 4) 0 (fun _ => .null) (wArea w) U H ∧ va_Z "java/lang/Integer" "DigitTens" "[B" (.ref (adr w 5)) (wArea w) U H ∧ va_T .byte (adr w 5) 100 (fun j => .int (dgT j)) (wArea w) U H ∧ va_Z "java/lang/Integer" "DigitOnes" "[B" (.ref (adr w 6)) (wArea w) U H ∧ va_T .byte (adr w 6) 100 (fun j => .int (dgO j)) (wArea w) U H ∧ va_AO2 U ∧ va_AO "StruckCountsLaw$Said" U ∧ va_AO "java/lang/Object" U ∧ va_Fw "java/util/ArrayList$Itr" ⟨"java/util/Iterator", "hasNext", "()Z"⟩ ⟨"java/util/ArrayList$Itr", "hasNext", "()Z"⟩ U ∧ va_Fw "java/util/ArrayList$Itr" ⟨"java/util/Iterator", "next", "()Ljava/lang/Object;"⟩ ⟨"java/util/ArrayList$Itr", "next", "()Ljava/lang/Object;"⟩ U ∧ va_Nw (.castable "StruckCountsLaw$Said" "java/lang/Object") U ∧ va_Nw (.castable "StruckCountsLaw$Count" "java/lang/Object") U ∧ va_Nw (.castable "[B" "java/lang/Cloneable") U) ∧
  va_Z "java/lang/String" "COMPACT_STRINGS" "Z" (.int 1) (wArea w) U H ∧ va_Z "jdk/internal/util/Preconditions" "SIOOBE_FORMATTER" "Ljava/util/function/BiFunction;" (vR w (hpR (wRo w) 1000 0)) (wArea w) U H ∧
  (∀ i, i < 24 → va_O "java/lang/String" (adr w (10 + i)) (wArea w) U H ∧ va_OF "java/lang/String" "coder" "B" (.int 0) (adr w (10 + i)) (wArea w) U H ∧ va_OF "java/lang/String" "value" "[B" (.ref (adr w (40 + i))) (adr w (10 + i)) (wArea w) U H ∧ va_T .byte (adr w (40 + i)) (zLen i) (fun j => .int (zByte i j)) (wArea w) U H) ∧
  (∀ q ∈ strs0, vk_R q.1 q.2.1 q.2.2.1 (adr w (10 + q.2.2.2)) U) ∧ va_AO "StruckCounts$State" U ∧ va_AO "StruckCounts$Worlds" U
def hLe (h h' : Hp) : Prop := hpN h ≤ hpN h' ∧ hpM h ≤ hpM h'
theorem hLe.rf {h : Hp} : hLe h h := ⟨Nat.le_refl _, Nat.le_refl _⟩
theorem hLe.tr {a b c : Hp} (h : hLe a b) (k : hLe b c) : hLe a c := ⟨Nat.le_trans h.1 k.1, Nat.le_trans h.2 k.2⟩
/-! WHERE A METHOD STANDS: the machine's part, the method's part, its first and last heap, its world -/
abbrev Cx : Type := (Program × Launch × Env × Room × State × MethodId) × (Array Value × List Frame × Method × Code × (State → Prop)) × ((Nat × ByteArray × String × Nat × Option FieldType × String) × Hp × Hp) × Wd
/-- what holds through a method: its code, class, words, room -/
def Ok (x : Cx) (cc : ByteArray) (own : String) (d : Nat) : Prop :=
  x.1.1.tables.exec = Jvm.exec ∧ x.2.1.2.2.2.1.code = cc ∧ x.2.1.2.2.2.1.maxLocals = x.2.2.1.1.1 ∧ x.1.2.2.2.2.1.vm.findClass own = some x.1.2.2.2.2.2.cls ∧ (∀ c ∈ TB, c.before x.2.1.1 x.1.2.2.2.2.1 = true) ∧ x.2.1.2.2.1.locks = false ∧ kOk x.2.2.2 x.1.2.2.2.2.1 ∧
  (x.2.1.2.2.1.sig.returnType = x.2.2.1.1.2.2.2.2.1 ∧ x.2.1.2.2.1.name = x.2.2.1.1.2.2.2.2.2) ∧
  (d ≤ x.1.2.2.2.1.frames ∧ 64 * d ≤ x.1.2.2.2.1.locals ∧ hpN x.2.2.1.2.2 - hpN x.2.2.1.2.1 ≤ x.1.2.2.2.1.cells ∧ hpM x.2.2.1.2.2 - hpM x.2.2.1.2.1 ≤ x.1.2.2.2.1.slots) ∧ wBase x.2.2.2 ≤ x.1.2.2.2.2.1.heap.size ∧ roOk x.2.2.2 x.1.2.2.2.2.1 x.1.2.2.2.2.1.heap
/-- which method it is -/
def On (x : Cx) (cc : ByteArray) (own : String) (d : Nat) : Prop := x.2.2.1.1.2.1 = cc ∧ x.2.2.1.1.2.2.1 = own ∧ x.2.2.1.1.2.2.2.1 = d
def G (x : Cx) (pc : Nat) (lv : List (Nat × Value)) (st : List Value) (h : Hp) : Prop :=
  Ok x x.2.2.1.1.2.1 x.2.2.1.1.2.2.1 x.2.2.1.1.2.2.2.1 → ∀ (H : Heap) (locs : List Loc) (ls : Array Slot), lv_has ls x.2.2.1.1.1 lv → hOk x.2.2.2 h H → va_S (wArea x.2.2.2) x.1.2.2.2.2.1.heap H locs → hLe x.2.2.1.2.1 h →
    W x.1.1 x.1.2.1 x.1.2.2.1 x.1.2.2.2.1 x.1.2.2.2.2.1 x.1.2.2.2.2.2 x.2.1.1 x.2.1.2.1 x.2.1.2.2.1 x.2.1.2.2.2.1 H locs (hpN h - hpN x.2.2.1.2.1) (hpM h - hpM x.2.2.1.2.1) x.2.1.2.2.2.2 (F0 x.1.2.2.2.2.2 pc ls st)
/-- the pure run's answer is the machine's -/
def J (x : Cx) (pc : Nat) (lv : List (Nat × Value)) (st : List Value) (h : Hp) {ρ : Type} (K : Option ρ) (T : ρ → Prop) : Prop := ∀ r, K = some r → T r → hLe h x.2.2.1.2.2 ∧ G x pc lv st h
/-! A METHOD'S CONTRACT, from one pure heap to another -/
abbrev Mi : Type := MethodName × ByteArray × Nat × Option FieldType
def wsM (mi : Mi) : List Cond := Cond.code mi.1 mi.2.1 mi.2.2.1 mi.2.2.2 :: TB
def rmM (d : Nat) (h h' : Hp) : Room := { frames := d, cells := hpN h' - hpN h, slots := hpM h' - hpM h, locals := 64 * d }
def pcM (w : Wd) (av : List Value) (h : Hp) : Array Value → State → Prop := fun v U => v = av.toArray ∧ hOk w h U.heap ∧ kOk w U ∧ roOk w U U.heap
def qcM (w : Wd) (res : Option Value) (h' : Hp) : Array Value → State → Outcome → State → Prop := fun _ st o t => o = .returned res ∧ hOk w h' t.heap ∧ va_F (wArea w) st t
def M1 (l : Launch) (w : Wd) (mi : Mi) (d : Nat) (av : List Value) (h h' : Hp) (res : Option Value) : Prop :=
  (Nonempty Cx → hLe h h') ∧ Met l mi.1 (wsM mi) (rmM d h h') (pcM w av h) (qcM w res h') (hpN h' - hpN h) (hpM h' - hpM h) (wArea w)
