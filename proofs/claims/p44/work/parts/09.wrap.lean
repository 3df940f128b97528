section WR
variable {x : Cx} {cc : ByteArray} {own : String} {d pc q : Nat} {lv lv' : List (Nat × Value)} {st : List Value} {h : Hp} {ρ : Type} {T : ρ → Prop}
/-- the decode rows of a method, all at once -/
def ckI (cc : ByteArray) : List (Nat × Instr × Nat) → Bool
  | [] => true
  | q :: l => decide (decode cc q.1 = .ok q.2) && ckI cc l
theorem dc {cc : ByteArray} {pc : Nat} {i : Instr × Nat} : ∀ {l : List (Nat × Instr × Nat)} (_ : ckI cc l = true) (k : Nat) (_ : l[k]? = some (pc, i)), decode cc pc = .ok i := by
  intro l
  induction l with
  | nil => intro _ k e; simp at e
  | cons q l ih =>
    intro h k e
    unfold ckI at h
    rw [Bool.and_eq_true] at h
    cases k with
    | zero =>
      have e : q = (pc, i) := by simpa using e
      subst e
      exact decide_eq_true_eq.mp h.1
    | succ k => exact ih h.2 k (by simpa using e)
theorem lv_args0 (i : Nat) : lv_args i [] = [] := rfl
theorem lv_argsR (i : Nat) (w : Wd) (a : Nat) (vs : List Value) : lv_args i (vR w a :: vs) = (i, vR w a) :: lv_args (i + 1) vs := by
  rw [lv_args, vR_cat]; rfl
theorem lv_argsI (i : Nat) (v : Int32) (vs : List Value) : lv_args i (.int v :: vs) = (i, .int v) :: lv_args (i + 1) vs := rfl
theorem lv_argsL (i : Nat) (v : Int64) (vs : List Value) : lv_args i (.long v :: vs) = (i, .long v) :: lv_args (i + 2) vs := rfl
theorem lg_len0 : (lg_sl []).length = 0 := rfl
theorem lg_lenR (w : Wd) (a : Nat) (vs : List Value) : (lg_sl (vR w a :: vs)).length = (lg_sl vs).length + 1 := by
  simp [lg_sl, vR_cat, Nat.add_comm]
theorem lg_lenI (v : Int32) (vs : List Value) : (lg_sl (.int v :: vs)).length = (lg_sl vs).length + 1 := by
  simp [lg_sl, Value.category, Nat.add_comm]
theorem lg_lenL (v : Int64) (vs : List Value) : (lg_sl (.long v :: vs)).length = (lg_sl vs).length + 2 := by
  show (List.flatMap _ _).length = _
  rw [List.flatMap_cons, List.length_append]
  exact Nat.add_comm _ _
/-- a field: its class, place and type -/
abbrev FI (c : Nat) (C : String) (Tt : u_T) (N : Nat) (ty : Nat → FieldType) (k kd : Nat) : Prop := CF c C Tt N ty ∧ c + 1 < 50 ∧ k < N ∧ True ∧ fKd (ty k) = kd
abbrev LK (own : String) (i : Nat) (_C : String) (Tt : u_T) (k : Nat) : Prop := LKc own i Tt k
theorem w_gI (hx : On x cc own d) {c k i a N : Nat} {C : String} {Tt : u_T} {ty : Nat → FieldType} {K : Int32 → Option ρ} (hd : decode cc pc = .ok (.getfield i, 3)) (f : FI c C Tt N ty k 0) (lk : LK own i C Tt k) (hq : pc + 3 = q)
    (kk : ∀ v, J x q lv (.int v :: st) h (K v) T) : J x pc lv (vR x.2.2.2 a :: st) h ((gI c k a h).bind K) T := j_gI hx hd f.1 f.2.1 f.2.2.1 lk f.2.2.2.1 f.2.2.2.2 hq kk
theorem w_gL (hx : On x cc own d) {c k i a N : Nat} {C : String} {Tt : u_T} {ty : Nat → FieldType} {K : Int64 → Option ρ} (hd : decode cc pc = .ok (.getfield i, 3)) (f : FI c C Tt N ty k 1) (lk : LK own i C Tt k) (hq : pc + 3 = q)
    (kk : ∀ v, J x q lv (.long v :: st) h (K v) T) : J x pc lv (vR x.2.2.2 a :: st) h ((gL c k a h).bind K) T := j_gL hx hd f.1 f.2.1 f.2.2.1 lk f.2.2.2.1 f.2.2.2.2 hq kk
theorem w_gR (hx : On x cc own d) {c k i a N : Nat} {C : String} {Tt : u_T} {ty : Nat → FieldType} {K : Nat → Option ρ} (hd : decode cc pc = .ok (.getfield i, 3)) (f : FI c C Tt N ty k 2) (lk : LK own i C Tt k) (hq : pc + 3 = q)
    (kk : ∀ v, J x q lv (vR x.2.2.2 v :: st) h (K v) T) : J x pc lv (vR x.2.2.2 a :: st) h ((gR c k a h).bind K) T := j_gR hx hd f.1 f.2.1 f.2.2.1 lk f.2.2.2.1 f.2.2.2.2 hq kk
abbrev FN (x : Cx) (own : String) (i : Nat) (_C : String) (Tt : u_T) (k : Nat) : Prop := (Tt k).2.2.2 = false ∨ (x.2.2.1.1.2.2.2.2.2 = "<init>" ∧ (Tt k).1 = own ∧ (Tt k).2.2.2 = true ∧ Cond.fieldLink own i (Tt k).1 (Tt k).2.1 (Tt k).2.2.1 ∈ TB)
theorem w_sI (hx : On x cc own d) {c k i a N : Nat} {v : Int32} {C : String} {Tt : u_T} {ty : Nat → FieldType} {K : Hp → Option ρ} (hd : decode cc pc = .ok (.putfield i, 3)) (f : FI c C Tt N ty k 0) (ht : ty k = .int) (lk : LK own i C Tt k) (hf : FN x own i C Tt k) (hq : pc + 3 = q)
    (kk : ∀ h', J x q lv st h' (K h') T) : J x pc lv (.int v :: vR x.2.2.2 a :: st) h ((sI c k a v h).bind K) T := j_sI hx hd f.1 f.2.1 f.2.2.1 lk f.2.2.2.1 hf ht hq (kk _)
theorem w_sZ (hx : On x cc own d) {c k i a N : Nat} {v : Int32} {C : String} {Tt : u_T} {ty : Nat → FieldType} {K : Hp → Option ρ} (hd : decode cc pc = .ok (.putfield i, 3)) (f : FI c C Tt N ty k 0) (ht : ty k = .boolean) (lk : LK own i C Tt k) (hf : FN x own i C Tt k) (hq : pc + 3 = q)
    (kk : ∀ h', J x q lv st h' (K h') T) : J x pc lv (.int v :: vR x.2.2.2 a :: st) h ((sZ c k a v h).bind K) T := j_sZ hx hd f.1 f.2.1 f.2.2.1 lk f.2.2.2.1 hf ht hq (kk _)
theorem w_sL (hx : On x cc own d) {c k i a N : Nat} {v : Int64} {C : String} {Tt : u_T} {ty : Nat → FieldType} {K : Hp → Option ρ} (hd : decode cc pc = .ok (.putfield i, 3)) (f : FI c C Tt N ty k 1) (ht : ty k = .long) (lk : LK own i C Tt k) (hf : FN x own i C Tt k) (hq : pc + 3 = q)
    (kk : ∀ h', J x q lv st h' (K h') T) : J x pc lv (.long v :: vR x.2.2.2 a :: st) h ((sL c k a v h).bind K) T := j_sL hx hd f.1 f.2.1 f.2.2.1 lk f.2.2.2.1 hf ht hq (kk _)
theorem w_sR (hx : On x cc own d) {c k i a v N : Nat} {C : String} {Tt : u_T} {ty : Nat → FieldType} {K : Hp → Option ρ} (hd : decode cc pc = .ok (.putfield i, 3)) (f : FI c C Tt N ty k 2) (lk : LK own i C Tt k) (hf : FN x own i C Tt k) (hq : pc + 3 = q)
    (kk : ∀ h', J x q lv st h' (K h') T) : J x pc lv (vR x.2.2.2 v :: vR x.2.2.2 a :: st) h ((sR c k a v h).bind K) T := j_sR hx hd f.1 f.2.1 f.2.2.1 lk f.2.2.2.1 hf f.2.2.2.2 hq (kk _)
theorem w_stI (hx : On x cc own d) {a : Nat} {i v : Int32} {K : Hp → Option ρ} (hd : decode cc pc = .ok (.iastore, 1)) (hq : pc + 1 = q) (kk : ∀ h', J x q lv st h' (K h') T) : J x pc lv (.int v :: .int i :: vR x.2.2.2 a :: st) h ((stI a i v h).bind K) T := j_stI hx hd hq (kk _)
theorem w_stZ (hx : On x cc own d) {a : Nat} {i v : Int32} {K : Hp → Option ρ} (hd : decode cc pc = .ok (.bastore, 1)) (hq : pc + 1 = q) (kk : ∀ h', J x q lv st h' (K h') T) : J x pc lv (.int v :: .int i :: vR x.2.2.2 a :: st) h ((stZ a i v h).bind K) T := j_stZ hx hd hq (kk _)
theorem w_stL (hx : On x cc own d) {a : Nat} {i : Int32} {v : Int64} {K : Hp → Option ρ} (hd : decode cc pc = .ok (.lastore, 1)) (hq : pc + 1 = q) (kk : ∀ h', J x q lv st h' (K h') T) : J x pc lv (.long v :: .int i :: vR x.2.2.2 a :: st) h ((stL a i v h).bind K) T := j_stL hx hd hq (kk _)
/-- what a method is, for its callers -/
abbrev MY (mi : Mi) (n : Nat) : Prop := Cond.code mi.1 mi.2.1 mi.2.2.1 mi.2.2.2 ∈ TB ∧ Cond.initialized mi.1.cls ∈ TB ∧ mi.2.2.1 ≤ 45 ∧ mi.1.cls ≠ "java/lang/invoke/MethodHandle" ∧ mi.1.cls ≠ "java/lang/invoke/VarHandle" ∧ (parseMethodDescriptor mi.1.desc).map (fun d => d.parameters.length) = some n
abbrev LM (own : String) (i : Nat) (mi : Mi) : Prop := Cond.methodLink own i mi.1 ∈ TB ∨ ∃ host, Cond.methodLinkNest own i mi.1 host ∈ NW
theorem cI (own : String) {mi : Mi} {i d d' n : Nat} (m : MY mi n) (lk : LM own i mi) (hdd : d' + 1 ≤ d) : cIn mi own i d d' n := ⟨m.1, m.2.1, hdd, m.2.2.1, lk, m.2.2.2.1, m.2.2.2.2.1, m.2.2.2.2.2⟩
theorem ite_ne {α : Type} {c : Prop} [Decidable c] {K : Option α} (h : (if c then K else none) ≠ none) : c := by
  by_cases hc : c
  · exact hc
  · rw [if_neg hc] at h; exact absurd rfl h
theorem J.ckd {c : Prop} [Decidable c] {K : Option ρ} (k : c → J x pc lv st h K T) : J x pc lv st h (if c then K else none) T := by
  by_cases hc : c
  · rw [if_pos hc]; exact k hc
  · rw [if_neg hc]; exact j_none
/-- the way out, as a method's answer has it -/
abbrev Rt (x : Cx) (h0 h' : Hp) (res : Option Value) (ret : Option FieldType) : Prop := x.2.2.1.2.1 = h0 ∧ x.2.2.1.2.2 = h' ∧ x.2.2.1.1.2.2.2.2.1 = ret ∧ x.2.1.2.2.2.2 = MQ x.2.1.2.1 (qcM x.2.2.2 res h') x.2.1.1 x.1.2.2.2.2.1 (hpN h' - hpN h0) (hpM h' - hpM h0) (wArea x.2.2.2)
theorem r_iW (hx : On x cc own d) {h0 : Hp} {u : Int32 × Hp} {v : Int32} (R : Rt x h0 u.2 (some (.int u.1)) (some .int)) (hd : decode cc pc = .ok (.ireturn, 1)) : J x pc lv [.int v] h (some (v, h)) (fun r => r = u) :=
  j_iret hx rfl R.1 R.2.1 R.2.2.1 R.2.2.2 hd fun e => by rw [← e]; exact ⟨rfl, rfl⟩
theorem r_iR (hx : On x cc own d) {u v : Int32} (R : Rt x h h (some (.int u)) (some .int)) (hd : decode cc pc = .ok (.ireturn, 1)) : J x pc lv [.int v] h (some v) (fun r => r = u) :=
  j_iret hx rfl R.1 R.2.1 R.2.2.1 R.2.2.2 hd fun e => by rw [← e]; exact ⟨rfl, rfl⟩
theorem r_zW (hx : On x cc own d) {h0 : Hp} {u : Int32 × Hp} {v : Int32} (R : Rt x h0 u.2 (some (.int u.1)) (some .boolean)) (hd : decode cc pc = .ok (.ireturn, 1)) : J x pc lv [.int v] h ((z01 v).bind fun v => some (v, h)) (fun r => r = u) :=
  j_zret hx rfl R.1 R.2.1 R.2.2.1 R.2.2.2 hd (K := fun v => some (v, h)) rfl fun e => by rw [← e]; exact ⟨rfl, rfl⟩
theorem r_zR (hx : On x cc own d) {u v : Int32} (R : Rt x h h (some (.int u)) (some .boolean)) (hd : decode cc pc = .ok (.ireturn, 1)) : J x pc lv [.int v] h (z01 v) (fun r => r = u) := by
  have e : z01 v = (z01 v).bind some := by cases z01 v <;> rfl
  rw [e]
  exact j_zret hx rfl R.1 R.2.1 R.2.2.1 R.2.2.2 hd (K := some) rfl fun e => by rw [← e]; exact ⟨rfl, rfl⟩
theorem r_lW (hx : On x cc own d) {h0 : Hp} {u : Int64 × Hp} {v : Int64} (R : Rt x h0 u.2 (some (.long u.1)) (some .long)) (hd : decode cc pc = .ok (.lreturn, 1)) : J x pc lv [.long v] h (some (v, h)) (fun r => r = u) :=
  j_lret hx rfl R.1 R.2.1 R.2.2.1 R.2.2.2 hd fun e => by rw [← e]; exact ⟨rfl, rfl⟩
theorem r_lR (hx : On x cc own d) {u v : Int64} (R : Rt x h h (some (.long u)) (some .long)) (hd : decode cc pc = .ok (.lreturn, 1)) : J x pc lv [.long v] h (some v) (fun r => r = u) :=
  j_lret hx rfl R.1 R.2.1 R.2.2.1 R.2.2.2 hd fun e => by rw [← e]; exact ⟨rfl, rfl⟩
theorem r_vW (hx : On x cc own d) {h0 : Hp} {u : Hp} (R : Rt x h0 u none none) (hd : decode cc pc = .ok (.return_, 1)) : J x pc lv [] h (some h) (fun r => r = u) :=
  j_vret hx rfl R.1 R.2.1 R.2.2.1 R.2.2.2 hd fun e => by rw [← e]; exact ⟨rfl, rfl⟩
theorem r_vR (hx : On x cc own d) {u : Unit} (R : Rt x h h none none) (hd : decode cc pc = .ok (.return_, 1)) : J x pc lv [] h (some ()) (fun r => r = u) :=
  j_vret hx rfl R.1 R.2.1 R.2.2.1 R.2.2.2 hd fun e => ⟨rfl, rfl⟩
theorem r_aR (hx : On x cc own d) {u a : Nat} {C : FieldType} (hC : (∃ n, C = .object n) ∨ ∃ t, C = .array t) (R : Rt x h h (some (vR x.2.2.2 u)) (some C)) (hd : decode cc pc = .ok (.areturn, 1)) : J x pc lv [vR x.2.2.2 a] h (some a) (fun r => r = u) :=
  j_aret hx rfl R.1 R.2.1 R.2.2.1 hC R.2.2.2 hd fun e => by rw [← e]; exact ⟨rfl, rfl⟩
theorem r_aW (hx : On x cc own d) {h0 : Hp} {u : Nat × Hp} {a : Nat} {C : FieldType} (hC : (∃ n, C = .object n) ∨ ∃ t, C = .array t) (R : Rt x h0 u.2 (some (vR x.2.2.2 u.1)) (some C)) (hd : decode cc pc = .ok (.areturn, 1)) : J x pc lv [vR x.2.2.2 a] h (some (a, h)) (fun r => r = u) :=
  j_aret hx rfl R.1 R.2.1 R.2.2.1 hC R.2.2.2 hd fun e => by rw [← e]; exact ⟨rfl, rfl⟩
end WR
