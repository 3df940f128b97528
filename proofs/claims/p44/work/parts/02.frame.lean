/-! A PURE HEAP: shape (kind, length) of each address, its ints, longs and references, how many cells, how many slots. Kind 0: nothing; c + 1: an object of class c; 50, 51, 52: int, long, boolean arrays; 60 + c: arrays of class c; from 80 on what is only read, below 100. -/
abbrev Hp : Type := (Nat → Nat × Nat) × (Nat → Nat → Int32) × (Nat → Nat → Int64) × (Nat → Nat → Nat) × Nat × Nat
def hpS (h : Hp) (a : Nat) : Nat × Nat := h.1 a
def hpI (h : Hp) (a k : Nat) : Int32 := h.2.1 a k
def hpL (h : Hp) (a k : Nat) : Int64 := h.2.2.1 a k
def hpR (h : Hp) (a k : Nat) : Nat := h.2.2.2.1 a k
def hpN (h : Hp) : Nat := h.2.2.2.2.1
def hpM (h : Hp) : Nat := h.2.2.2.2.2
def up2 {α : Type} (f : Nat → Nat → α) (a k : Nat) (x : α) : Nat → Nat → α := fun b j => if b = a ∧ j = k then x else f b j
def upI (h : Hp) (a k : Nat) (x : Int32) : Hp := (h.1, up2 h.2.1 a k x, h.2.2)
def upL (h : Hp) (a k : Nat) (x : Int64) : Hp := (h.1, h.2.1, up2 h.2.2.1 a k x, h.2.2.2)
def upR (h : Hp) (a k : Nat) (x : Nat) : Hp := (h.1, h.2.1, h.2.2.1, up2 h.2.2.2.1 a k x, h.2.2.2.2)
/-- a new cell of a kind and length, all zero -/
def hpNew (kd n : Nat) (h : Hp) : Hp :=
  ((fun a => if a = hpN h then (kd, n) else h.1 a), (fun a k => if a = hpN h then 0 else h.2.1 a k), (fun a k => if a = hpN h then 0 else h.2.2.1 a k), (fun a k => if a = hpN h then 0 else h.2.2.2.1 a k), hpN h + 1, hpM h + n)
def inB (i : Int32) (n : Nat) : Bool := decide (0 ≤ i.toInt ∧ i.toInt < n)
theorem inB_vp {i : Int32} {n : Nat} (h : inB i n = true) : vp_in i n := vp_in_iff.mpr (of_decide_eq_true h)
def ixN (i : Int32) : Nat := i.toNatClampNeg
-- what the code does with it
def gI (c k a : Nat) (h : Hp) : Option Int32 := if (hpS h a).1 = c + 1 then some (hpI h a k) else none
def gL (c k a : Nat) (h : Hp) : Option Int64 := if (hpS h a).1 = c + 1 then some (hpL h a k) else none
def gR (c k a : Nat) (h : Hp) : Option Nat := if (hpS h a).1 = c + 1 then some (hpR h a k) else none
def sI (c k a : Nat) (x : Int32) (h : Hp) : Option Hp := if (hpS h a).1 = c + 1 then some (upI h a k x) else none
def sZ (c k a : Nat) (x : Int32) (h : Hp) : Option Hp := if (hpS h a).1 = c + 1 ∧ (x = 0 ∨ x = 1) then some (upI h a k x) else none
def sL (c k a : Nat) (x : Int64) (h : Hp) : Option Hp := if (hpS h a).1 = c + 1 then some (upL h a k x) else none
def sR (c k a : Nat) (x : Nat) (h : Hp) : Option Hp := if (hpS h a).1 = c + 1 then some (upR h a k x) else none
def aKd (k : Nat) : Bool := k == 50 || k == 51 || k == 52 || k == 65 || k == 70 || k == 73 || k == 78 || k == 79 || k == 80 || k == 81
def aLen (a : Nat) (h : Hp) : Option Int32 := if aKd (hpS h a).1 = true then some (Int32.ofNat (hpS h a).2) else none
def ldI (a : Nat) (i : Int32) (h : Hp) : Option Int32 := if ((hpS h a).1 = 50 ∨ (hpS h a).1 = 80) ∧ inB i (hpS h a).2 = true then some (hpI h a (ixN i)) else none
def ldL (a : Nat) (i : Int32) (h : Hp) : Option Int64 := if ((hpS h a).1 = 51 ∨ (hpS h a).1 = 81) ∧ inB i (hpS h a).2 = true then some (hpL h a (ixN i)) else none
def ldZ (a : Nat) (i : Int32) (h : Hp) : Option Int32 := if (hpS h a).1 = 52 ∧ inB i (hpS h a).2 = true then some (hpI h a (ixN i)) else none
def ldR (c a : Nat) (i : Int32) (h : Hp) : Option Nat := if (hpS h a).1 = 60 + c ∧ inB i (hpS h a).2 = true then some (hpR h a (ixN i)) else none
def stI (a : Nat) (i : Int32) (x : Int32) (h : Hp) : Option Hp := if (hpS h a).1 = 50 ∧ inB i (hpS h a).2 = true then some (upI h a (ixN i) x) else none
def stL (a : Nat) (i : Int32) (x : Int64) (h : Hp) : Option Hp := if (hpS h a).1 = 51 ∧ inB i (hpS h a).2 = true then some (upL h a (ixN i) x) else none
def stZ (a : Nat) (i : Int32) (x : Int32) (h : Hp) : Option Hp := if ((hpS h a).1 = 52 ∧ inB i (hpS h a).2 = true) ∧ (x = 0 ∨ x = 1) then some (upI h a (ixN i) x) else none
def stR (c a : Nat) (i : Int32) (x : Nat) (h : Hp) : Option Hp := if ((hpS h a).1 = 60 + c ∧ inB i (hpS h a).2 = true) ∧ (hpS h x).1 = c + 1 then some (upR h a (ixN i) x) else none
def nz (x : Int32) : Option Int32 := if x = 0 then none else some x
def nzL (x : Int64) : Option Int64 := if x = 0 then none else some x
def z01 (x : Int32) : Option Int32 := if x = 0 ∨ x = 1 then some x else none
/-! LOOPS: a body says either how it goes on or what comes out -/
def lpN {S ρ : Type} (f : S → Option (S ⊕ ρ)) : Nat → S → Option ρ
  | 0, _ => none
  | n + 1, s => match f s with
    | none => none
    | some (.inl t) => lpN f n t
    | some (.inr r) => some r
noncomputable def lp {S ρ : Type} (f : S → Option (S ⊕ ρ)) (s : S) : Option ρ :=
  @dite _ (∃ r, ∃ n, lpN f n s = some r) (Classical.propDecidable _) (fun h => some (Classical.choose h)) (fun _ => none)
theorem lpN_mono {S ρ : Type} {f : S → Option (S ⊕ ρ)} : ∀ {n m : Nat} {s : S} {r : ρ}, lpN f n s = some r → n ≤ m → lpN f m s = some r := by
  intro n
  induction n with
  | zero => intro m s r h; cases h
  | succ n ih =>
    intro m s r h hm
    obtain ⟨k, rfl⟩ : ∃ k, m = k + 1 := ⟨m - 1, by omega⟩
    simp only [lpN] at h ⊢
    cases hf : f s with
    | none => rw [hf] at h; cases h
    | some v =>
      rw [hf] at h
      cases v with
      | inl t => exact ih h (by omega)
      | inr q => exact h
theorem lp_iff {S ρ : Type} {f : S → Option (S ⊕ ρ)} {s : S} {r : ρ} : lp f s = some r ↔ ∃ n, lpN f n s = some r := by
  unfold lp
  constructor
  · intro h
    split at h
    · rename_i hh
      injection h with h
      subst h
      exact Classical.choose_spec hh
    · cases h
  · rintro ⟨n, hn⟩
    have hh : ∃ r, ∃ n, lpN f n s = some r := ⟨r, n, hn⟩
    rw [dif_pos hh]
    obtain ⟨m, hm⟩ := Classical.choose_spec hh
    have h1 := lpN_mono hn (Nat.le_max_left n m)
    have h2 := lpN_mono hm (Nat.le_max_right n m)
    exact h2.symm.trans h1
theorem lp_eq {S ρ : Type} (f : S → Option (S ⊕ ρ)) (s : S) : lp f s = match f s with
    | none => none
    | some (.inl t) => lp f t
    | some (.inr r) => some r := by
  apply Option.ext
  intro r
  cases hf : f s with
  | none =>
    constructor
    · intro h
      obtain ⟨n, hn⟩ := lp_iff.mp h
      cases n with
      | zero => cases hn
      | succ n => simp [lpN, hf] at hn
    · intro h; cases h
  | some v =>
    cases v with
    | inl t =>
      show lp f s = some r ↔ lp f t = some r
      rw [lp_iff, lp_iff]
      constructor
      · rintro ⟨n, hn⟩
        cases n with
        | zero => cases hn
        | succ n => exact ⟨n, by simpa [lpN, hf] using hn⟩
      · rintro ⟨n, hn⟩
        exact ⟨n + 1, by simpa [lpN, hf] using hn⟩
    | inr q =>
      show lp f s = some r ↔ some q = some r
      rw [lp_iff]
      constructor
      · rintro ⟨n, hn⟩
        cases n with
        | zero => cases hn
        | succ n => simpa [lpN, hf] using hn
      · intro h
        exact ⟨1, by simpa [lpN, hf] using h⟩
def xt {S ρ : Type} (K : Option ρ) : Option (S ⊕ ρ) := K.bind fun r => some (.inr r)
def tsw {α : Type} (x : Int32) (lo : Int) (l : List α) (d : α) : α := if x.toInt < lo then d else l.getD (x.toInt - lo).toNat d
def lsw {α : Type} (x : Int32) : List (Int × α) → α → α
  | [], d => d
  | (k, a) :: l, d => if x.toInt = k then a else lsw x l d
/-! WHAT THE TABLES GIVE -/
def isNw : Cond → Bool
  | .methodLinkNest .. => true
  | .fieldLinkNest .. => true
  | _ => false
def sbPriv : List MethodName := [("appendNull", "()Ljava/lang/AbstractStringBuilder;"), ("ensureCapacityInternal", "(I)V"), ("inflate", "()V"), ("inflateIfNeededFor", "(Ljava/lang/String;)V"), ("newCapacity", "(I)I"), ("putStringAt", "(ILjava/lang/String;)V")].map fun q => ⟨"java/lang/AbstractStringBuilder", q.1, q.2⟩
/-- a superclass's private methods, on what is made of a subclass -/
def sbSel : List Cond := sbPriv.map fun y => Cond.selects "java/lang/StringBuilder" y y
def TB : List Cond := (lw_tbl ++ sbSel).filter goodWord
theorem TBm {w : Cond} (h : w ∈ lw_tbl) (hg : goodWord w = true) : w ∈ TB := List.mem_filter.mpr ⟨List.mem_append_left _ h, hg⟩
theorem TBs {y : MethodName} (h : y ∈ sbPriv) : Cond.selects "java/lang/StringBuilder" y y ∈ TB := List.mem_filter.mpr ⟨List.mem_append_right _ (List.mem_map.mpr ⟨y, h, rfl⟩), rfl⟩
def NW : List Cond := lw_tbl.filter isNw
theorem tbm {w : Cond} {i : Nat} (h : lw_tbl[i]? = some w) (hg : goodWord w = true) : w ∈ TB := TBm (List.mem_of_getElem? h) hg
theorem nwm {w : Cond} {i : Nat} (h : lw_tbl[i]? = some w) (hg : isNw w = true) : w ∈ NW := List.mem_filter.mpr ⟨List.mem_of_getElem? h, hg⟩
theorem TB_good : GoodIn TB TB := fun w hw => ⟨hw, good_of_word (List.mem_filter.mp hw).2⟩
theorem NW_warm {s U : State} (hW : s.WarmedH U.vm) (h : ∀ w ∈ NW, va_Nw w s) : ∀ w ∈ NW, va_Nw w U := by
  intro w hw
  have h1 := h w hw
  have h2 := (List.mem_filter.mp hw).2
  cases w <;> first | (exact Bool.noConfusion h2) | exact va_Nw.warmM hW h1 | exact va_Nw.warmF hW h1
