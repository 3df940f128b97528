/-! WHAT IS SAID: trees, their texts, what they mean; how they lie in the heap -/
def Tr : Nat → Type
  | 0 => Nat
  | d + 1 => Nat × Nat × Nat × (Nat → Tr d)
def tL (t : Tr 0) : Nat := t
def tK {d : Nat} (t : Tr (d + 1)) : Nat := (show Nat × Nat × Nat × (Nat → Tr d) from t).1
def tF {d : Nat} (t : Tr (d + 1)) : Nat := (show Nat × Nat × Nat × (Nat → Tr d) from t).2.1
def tM {d : Nat} (t : Tr (d + 1)) : Nat := (show Nat × Nat × Nat × (Nat → Tr d) from t).2.2.1
def tP {d : Nat} (t : Tr (d + 1)) (i : Nat) : Tr d := (show Nat × Nat × Nat × (Nat → Tr d) from t).2.2.2 i
def mkT {d : Nat} (k o m : Nat) (p : Nat → Tr d) : Tr (d + 1) := (show Nat × Nat × Nat × (Nat → Tr d) from (k, o, m, p))
def kd : (d : Nat) → Tr d → Nat
  | 0, _ => 0
  | _ + 1, t => tK t
def wr (k : Nat) (x : List Nat) : List Nat := if k ≤ 1 then x else 40 :: (x ++ [41])
/-- so many parts, joined -/
def jn {α : Type} (sep : List α) (p : Nat → List α) : Nat → List α
  | 0 => []
  | n + 1 => jn sep p n ++ ((if n = 0 then [] else sep) ++ p n)
def sepT (k : Nat) : List Nat := if k = 2 then [38] else if k = 3 then [32, 124] else [44]
def tA : (d : Nat) → Tr d → List Nat
  | 0, t => [97 + tL t]
  | d + 1, t => if tK t = 0 then [97 + tF t] else if tK t = 1 then 33 :: wr (kd d (tP t 0)) (tA d (tP t 0)) else if tK t = 4 then (dcm (tF t) ++ [32, 111, 102, 32, 40]) ++ (jn [44] (fun i => tA d (tP t i)) (tM t) ++ [41]) else jn (sepT (tK t)) (fun i => wr (kd d (tP t i)) (tA d (tP t i))) (tM t)
def tO (d : Nat) (t : Tr d) : List Nat := wr (kd d t) (tA d t)
def hT : (d : Nat) → Tr d → Nat → Bool
  | 0, t, w => w.testBit (tL t)
  | d + 1, t, w => if tK t = 0 then w.testBit (tF t) else if tK t = 1 then decide (cntB (fun i => hT d (tP t i) w) (tM t) = 0) else if tK t = 2 then decide (cntB (fun i => hT d (tP t i) w) (tM t) = tM t) else if tK t = 3 then decide (0 < cntB (fun i => hT d (tP t i) w) (tM t)) else decide (tF t ≤ cntB (fun i => hT d (tP t i) w) (tM t))
def okT (F : Nat) : (d : Nat) → Tr d → Prop
  | 0, t => tL t < F
  | d + 1, t => tK t ≤ 4 ∧ (tK t = 0 → tF t < F) ∧ (tK t ≠ 0 → 1 ≤ tM t ∧ tM t ≤ 3 ∧ (tK t = 1 → tM t = 1) ∧ (tK t ≠ 1 → 2 ≤ tM t) ∧ ∀ i, i < tM t → okT F d (tP t i)) ∧ (tK t = 4 → tF t ≤ tM t)
def SA (h : Hp) : (d : Nat) → Nat → Tr d → Prop
  | 0, a, t => 433 ≤ a ∧ a < hpN h ∧ hpS h a = (14, 3) ∧ hpI h a 0 = 0 ∧ hpI h a 1 = nI (tL t)
  | d + 1, a, t => 433 ≤ a ∧ a < hpN h ∧ hpS h a = (14, 3) ∧ hpI h a 0 = nI (tK t) ∧ hpI h a 1 = nI (tF t) ∧ (tK t ≠ 0 → 433 ≤ hpR h a 2 ∧ hpR h a 2 < hpN h ∧ hpS h (hpR h a 2) = (73, tM t) ∧ ∀ i, i < tM t → SA h d (hpR h (hpR h a 2) i) (tP t i))
def lA : Nat → Nat
  | 0 => 1
  | d + 1 => 8 + 3 * (lA d + 4)
def cA : Nat → Nat
  | 0 => 10
  | d + 1 => 3 * (cA d + 12) + 20
def sA : Nat → Nat
  | 0 => 60
  | d + 1 => 3 * (sA d + 70 + 10 * lA d + 4 * lA (d + 1)) + 200 + 8 * lA (d + 1)
section F4
variable {h h' h0 h1 h2 h3 : Hp} {P P' : Nat → Prop} {c c' s s' z a b n x y cap d F : Nat} {t u : List Nat}
theorem wr_len (k : Nat) (x : List Nat) : (wr k x).length ≤ x.length + 2 := by
  unfold wr
  split
  · omega
  · simp only [List.length_cons, List.length_append, List.length_nil]; omega
theorem jn_len {sep : List Nat} {p : Nat → List Nat} {l : Nat} (hs : sep.length ≤ 2) : ∀ n, (∀ i, i < n → (p i).length ≤ l) → (jn sep p n).length ≤ n * (l + 2)
  | 0, _ => Nat.zero_le _
  | n + 1, hp => by
    have ih := jn_len hs n (fun i hi => hp i (by omega))
    have h1 := hp n (by omega)
    have h2 : (if n = 0 then ([] : List Nat) else sep).length ≤ 2 := by
      split
      · exact Nat.zero_le _
      · exact hs
    show (jn sep p n ++ ((if n = 0 then [] else sep) ++ p n)).length ≤ _
    rw [List.length_append, List.length_append, Nat.succ_mul]
    omega
theorem sep_len (k : Nat) : (sepT k).length ≤ 2 := by
  unfold sepT
  repeat' split
  all_goals decide
theorem dig_le (v : Nat) : (dcm v).length ≤ 3 := by
  rw [dig_len]
  repeat' split
  all_goals omega
theorem tA_len : ∀ {d : Nat} {T : Tr d}, okT F d T → (tA d T).length ≤ lA d
  | 0, T, _ => Nat.le_refl 1
  | d + 1, T, hT => by
    obtain ⟨a1, a2, a3, a4⟩ := hT
    show (if tK T = 0 then [97 + tF T] else if tK T = 1 then 33 :: wr (kd d (tP T 0)) (tA d (tP T 0)) else if tK T = 4 then (dcm (tF T) ++ [32, 111, 102, 32, 40]) ++ (jn [44] (fun i => tA d (tP T i)) (tM T) ++ [41]) else jn (sepT (tK T)) (fun i => wr (kd d (tP T i)) (tA d (tP T i))) (tM T)).length ≤ 8 + 3 * (lA d + 4)
    by_cases q0 : tK T = 0
    · rw [if_pos q0]; show 1 ≤ _; omega
    · rw [if_neg q0]
      obtain ⟨b1, b2, b3, b4, b5⟩ := a3 q0
      by_cases q1 : tK T = 1
      · rw [if_pos q1]
        have := wr_len (kd d (tP T 0)) (tA d (tP T 0))
        have := tA_len (b5 0 (by omega))
        rw [List.length_cons]; omega
      · rw [if_neg q1]
        by_cases q4 : tK T = 4
        · rw [if_pos q4]
          have e1 := dig_le (tF T)
          have e2 := jn_len (sep := [44]) (p := fun i => tA d (tP T i)) (l := lA d) (by decide) (tM T) (fun i hi => tA_len (b5 i hi))
          have e3 : tM T * (lA d + 2) ≤ 3 * (lA d + 2) := Nat.mul_le_mul_right _ b2
          have e4 : tF T ≤ 3 := by have := a4 q4; omega
          have e5 : (dcm (tF T)).length = 1 := by rw [dig_len, if_pos (by omega)]
          rw [List.length_append, List.length_append, List.length_append, e5]
          show 1 + 5 + (_ + 1) ≤ _
          omega
        · rw [if_neg q4]
          have e2 := jn_len (sep := sepT (tK T)) (p := fun i => wr (kd d (tP T i)) (tA d (tP T i))) (l := lA d + 2) (sep_len _) (tM T) (fun i hi => by have := wr_len (kd d (tP T i)) (tA d (tP T i)); have := tA_len (b5 i hi); omega)
          have e3 : tM T * (lA d + 2 + 2) ≤ 3 * (lA d + 2 + 2) := Nat.mul_le_mul_right _ b2
          omega
/-- a tree stays -/
theorem SA.keep (hN : hpN h ≤ hpN h') (hk : ∀ a, 433 ≤ a → a < hpN h → ((hpS h a).1 = 14 ∨ (hpS h a).1 = 73) → Sm h h' a) : ∀ {d a : Nat} {T : Tr d}, SA h d a T → SA h' d a T
  | 0, a, T, ⟨a1, a2, a3, a4, a5⟩ => by
    obtain ⟨g1, g2, g3, g4⟩ := hk a a1 a2 (Or.inl (by rw [a3]))
    exact ⟨a1, by omega, by rw [g1]; exact a3, by rw [g2]; exact a4, by rw [g2]; exact a5⟩
  | d + 1, a, T, ⟨a1, a2, a3, a4, a5, a6⟩ => by
    obtain ⟨g1, g2, g3, g4⟩ := hk a a1 a2 (Or.inl (by rw [a3]))
    refine ⟨a1, by omega, by rw [g1]; exact a3, by rw [g2]; exact a4, by rw [g2]; exact a5, fun q => ?_⟩
    obtain ⟨b1, b2, b3, b4⟩ := a6 q
    obtain ⟨k1, k2, k3, k4⟩ := hk (hpR h a 2) b1 b2 (Or.inr (by rw [b3]))
    rw [g4]
    exact ⟨b1, by omega, by rw [k1]; exact b3, fun i hi => by rw [k4]; exact SA.keep hN hk (b4 i hi)⟩
theorem SA.ex {T : Tr d} (hs : SA h d a T) (e : Gw h h' P c s) (hp : ∀ a, 433 ≤ a → a < hpN h → ((hpS h a).1 = 14 ∨ (hpS h a).1 = 73) → ¬ P a) : SA h' d a T :=
  hs.keep e.le (fun a h1 h2 h3 => e.sm h2 (hp a h1 h2 h3))
theorem SA.fr {T : Tr d} (hs : SA h d a T) (e : Gw h h' nP c s) : SA h' d a T := hs.ex e (fun _ _ _ _ q => q)
theorem SBc.no14 (hx : SBc h x t cap) : ∀ a, 433 ≤ a → a < hpN h → ((hpS h a).1 = 14 ∨ (hpS h a).1 = 73) → ¬ own h x a := fun a _ _ hk q => by
  obtain ⟨⟨b1, b2, b3, _⟩, ⟨_, _, b5, _⟩, _⟩ := hx
  rcases q with q | q
  · rw [q, b3] at hk; exact absurd hk (by decide)
  · rw [q, b5] at hk
    have hk : (53 : Nat) = 14 ∨ (53 : Nat) = 73 := hk
    omega
theorem SA.keepB {T : Tr d} (hs : SA h d a T) (hx : SB h x t) (e : Gw h h' (own h x) c s) : SA h' d a T := by
  obtain ⟨cap, hx, _⟩ := hx
  exact hs.ex e hx.no14
theorem own_new (e : Gw h0 h P c s) (hx : SB h x t) (h0x : hpN h0 ≤ x) : ∀ a, a < hpN h0 → ¬ own h x a := fun a ha q => by
  obtain ⟨cap, ⟨⟨b1, b2, b3, _⟩, ⟨b4, _, b5, _⟩, _⟩, _⟩ := hx
  rcases q with q | q
  · omega
  · rcases e.2.2 x b2 (Or.inl (by rw [b3])) with ⟨z, _⟩ | z | z
    · omega
    · omega
    · omega
/-- a builder made since h0 -/
def BL (h0 h : Hp) (x : Nat) (t : List Nat) (c s : Nat) : Prop := hpN h0 ≤ x ∧ CLO h ∧ SB h x t ∧ Gw h0 h nP c s
theorem BL.app (b : BL h0 h x t c s) (hs : ST h z u) (hl : t.length + u.length ≤ 3000) :
    ∃ h', mJ4_append_15ec4 x z h = some (x, h') ∧ BL h0 h' x (t ++ u) (c + 1) (s + (2 * (t.length + u.length) + 2)) ∧ Gw h h' (own h x) 1 (2 * (t.length + u.length) + 2) := by
  obtain ⟨b1, b2, b3, b4⟩ := b
  obtain ⟨h', e, sb, ex⟩ := app_ok b2 b3 hs hl
  exact ⟨h', e, ⟨b1, b2.ex ex, sb, b4.tr ex (fun a ha q => own_new b4 b3 b1 a ha q)⟩, ex⟩
theorem BL.ch (b : BL h0 h x t c s) {d : Nat} (hd : d < 128) (hl : t.length + 1 ≤ 3000) :
    ∃ h', mJ4_append_cf468 x (nI d) h = some (x, h') ∧ BL h0 h' x (t ++ [d]) (c + 1) (s + (2 * (t.length + 1) + 2)) ∧ Gw h h' (own h x) 1 (2 * (t.length + 1) + 2) := by
  obtain ⟨b1, b2, b3, b4⟩ := b
  obtain ⟨h', e, sb, ex⟩ := appch_ok b2 b3 hd hl
  exact ⟨h', e, ⟨b1, b2.ex ex, sb, b4.tr ex (fun a ha q => own_new b4 b3 b1 a ha q)⟩, ex⟩
theorem BL.num (b : BL h0 h x t c s) {v : Nat} (hv : v < 1000) (hl : t.length + 3 ≤ 3000) :
    ∃ h', mJ4_append_bf812 x (nI v) h = some (x, h') ∧ BL h0 h' x (t ++ dcm v) (c + 1) (s + (2 * (t.length + 3) + 2)) ∧ Gw h h' (own h x) 1 (2 * (t.length + 3) + 2) := by
  obtain ⟨b1, b2, b3, b4⟩ := b
  obtain ⟨h', e, sb, ex⟩ := appi_ok b2 b3 hv hl
  exact ⟨h', e, ⟨b1, b2.ex ex, sb, b4.tr ex (fun a ha q => own_new b4 b3 b1 a ha q)⟩, ex⟩
theorem BL.sub (b : BL h0 h x t c s) (e : Gw h h' nP c' s') : BL h0 h' x t (c + c') (s + s') :=
  ⟨b.1, b.2.1.ex e, b.2.2.1.fr e, b.2.2.2.tr e (fun _ _ q => q)⟩
theorem BL.new (hC : CLO h) (h433 : 433 ≤ hpN h) : ∃ h', (∀ {ρ : Type} (K : Nat → Hp → Option ρ), (b2 (newO 16 4 h) fun v h1 => (mJ4_init_da8c8 v h1).bind fun h2 => K v h2) = K (hpN h) h') ∧ BL h h' (hpN h) [] 2 20 := by
  obtain ⟨h', e, sb, ex⟩ := nsb_ok hC h433
  exact ⟨h', e, Nat.le_refl _, hC.ex ex, sb, ex⟩
theorem BL.tos (b : BL h0 h x t c s) (hl : t.length ≤ 3000) : ∃ z h', mJ4_toString_0e30d x h = some (z, h') ∧ ST h' z t ∧ Gw h0 h' nP (c + 2) (s + (4 + t.length)) ∧ Gw h h' nP 2 (4 + t.length) ∧ z = hpN h := by
  obtain ⟨b1, b2, b3, b4⟩ := b
  obtain ⟨z, h', e, st, ex, ez⟩ := tos_ok b2 b3 hl
  exact ⟨z, h', e, st, b4.tr ex (fun _ _ q => q), ex, ez⟩
theorem BL.ge (b : BL h0 h x t c s) : 433 ≤ hpN h := by
  obtain ⟨_, _, ⟨cap, hx, _⟩, _⟩ := b
  have := hx.1.1
  have := hx.1.2.1
  omega
/-- the String constants -/
def lits (i : Nat) (t : List Nat) : Bool := decide (i < 24) && (decide (zLen i = t.length) && (List.range t.length).all (fun j => decide (t.getD j 0 < 128) && decide (zByte i j = nI (t.getD j 0))))
theorem ST.lit {i : Nat} (t : List Nat) (hl : lits i t = true) : ST h (10 + i) t := by
  unfold lits at hl
  simp only [Bool.and_eq_true, decide_eq_true_eq, List.all_eq_true, List.mem_range] at hl
  obtain ⟨h1, h2, h3⟩ := hl
  refine ⟨fun j hj => (h3 j hj).1, Or.inl ⟨by omega, by omega, ?_, fun j hj => ?_⟩⟩
  · rw [Nat.add_sub_cancel_left]; exact h2
  · rw [Nat.add_sub_cancel_left]; exact (h3 j hj).2
theorem st12 : ST h 12 [32] := ST.lit (i := 2) _ (by decide +kernel)
theorem st13 : ST h 13 [10] := ST.lit (i := 3) _ (by decide +kernel)
theorem st14 : ST h 14 [] := ST.lit (i := 4) _ (by decide +kernel)
theorem st15 : ST h 15 [102, 97, 99, 116, 32] := ST.lit (i := 5) _ (by decide +kernel)
theorem st16 : ST h 16 [110, 101, 118, 101, 114, 32] := ST.lit (i := 6) _ (by decide +kernel)
theorem st17 : ST h 17 [33] := ST.lit (i := 7) _ (by decide +kernel)
theorem st18 : ST h 18 [40] := ST.lit (i := 8) _ (by decide +kernel)
theorem st19 : ST h 19 [41] := ST.lit (i := 9) _ (by decide +kernel)
theorem st20 : ST h 20 [32, 111, 102, 32, 40] := ST.lit (i := 10) _ (by decide +kernel)
theorem st21 : ST h 21 [38] := ST.lit (i := 11) _ (by decide +kernel)
theorem st22 : ST h 22 [32, 124] := ST.lit (i := 12) _ (by decide +kernel)
theorem st23 : ST h 23 [44] := ST.lit (i := 13) _ (by decide +kernel)
theorem st24 : ST h 24 [108, 105, 109, 105, 116, 32] := ST.lit (i := 14) _ (by decide +kernel)
theorem st25 : ST h 25 [99, 111, 117, 110, 116, 32] := ST.lit (i := 15) _ (by decide +kernel)
theorem st26 : ST h 26 [99] := ST.lit (i := 16) _ (by decide +kernel)
theorem st27 : ST h 27 [32, 119, 111, 114, 116, 104, 32] := ST.lit (i := 17) _ (by decide +kernel)
theorem st28 : ST h 28 [32, 97, 114, 111, 115, 101, 32] := ST.lit (i := 18) _ (by decide +kernel)
theorem st29 : ST h 29 [32, 110, 101, 101, 100, 115, 32] := ST.lit (i := 19) _ (by decide +kernel)
theorem st30 : ST h 30 [112, 108, 101, 97, 32] := ST.lit (i := 20) _ (by decide +kernel)
theorem st31 : ST h 31 [115, 97, 121, 115, 32] := ST.lit (i := 21) _ (by decide +kernel)
theorem st32 : ST h 32 [32, 33] := ST.lit (i := 22) _ (by decide +kernel)
theorem st33 : ST h 33 [115, 97, 109, 101, 32] := ST.lit (i := 23) _ (by decide +kernel)
end F4
