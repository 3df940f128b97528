/-! THE LAW'S OWN HEAP: what a step may change, by kinds of cells; its draws; its lists -/
def KB (l : List Nat) (h : Hp) : Nat → Prop := fun a => (a = 99 ∧ 16 ∈ l) ∨ (433 ≤ a ∧ (hpS h a).1 ∈ l)
abbrev GK (l : List Nat) (h h' : Hp) (c s : Nat) : Prop := Gw h h' (KB l h) c s
def PL (a : Nat) : Prop := a = 99 ∨ 433 ≤ a
/-- the law: its class, script, odds, nevers, sames, undos -/
def LWs (h : Hp) (oa na ma ua su : Nat) : Prop :=
  433 ≤ hpN h ∧ (hpS h 99 = (16, 12) ∧ hpR h 99 0 = 100 ∧ hpR h 99 1 = 1 ∧ hpR h 99 6 = oa ∧ hpR h 99 7 = na ∧ hpR h 99 8 = ma ∧ hpR h 99 11 = ua ∧ hpR h 99 9 = su) ∧ (∃ m, m ≤ 260 ∧ hpS h 1 = (80, m)) ∧
  (433 ≤ oa ∧ oa < hpN h ∧ hpS h oa = (50, 8)) ∧ (433 ≤ ma ∧ ma < hpN h ∧ hpS h ma = (79, 5) ∧ ∀ i, i < 5 → 433 ≤ hpR h ma i ∧ hpR h ma i < hpN h ∧ hpS h (hpR h ma i) = (52, 5)) ∧ (433 ≤ ua ∧ ua < hpN h ∧ hpS h ua = (19, 3) ∧ hpI h ua 2 = 0 ∧ hpR h ua 1 = 4) ∧ na ≠ ua
/-- its numbers: how much is drawn, facts, lines -/
def LWi (h : Hp) (n F l : Nat) : Prop := hpI h 99 2 = nI n ∧ hpI h 99 3 = nI F ∧ hpI h 99 5 = nI l
/-- a list of n -/
def AL (h : Hp) (a n : Nat) (f : Nat → Nat) : Prop := 433 ≤ a ∧ a < hpN h ∧ hpS h a = (19, 3) ∧ hpI h a 2 = nI n ∧ n ≤ 10 ∧ ((n = 0 ∧ hpR h a 1 = 4) ∨ (433 ≤ hpR h a 1 ∧ hpR h a 1 < hpN h ∧ hpS h (hpR h a 1) = (78, 10) ∧ ∀ i, i < n → hpR h (hpR h a 1) i = f i))
section J0
variable {h h' h0 h1 h2 h3 : Hp} {P P' : Nat → Prop} {c c' s s' z a b n x y m F q oa na ma ua su nl : Nat} {t u : List Nat} {l l' : List Nat} {f g : Nat → Nat}
theorem GK.of (e : Gw h h' P c s) (hp : ∀ a, a < hpN h → P a → KB l h a) : GK l h h' c s := e.up hp (Nat.le_refl _) (Nat.le_refl _)
theorem GK.tr (e : GK l h h1 c s) (f : GK l h1 h2 c' s') : GK l h h2 (c + c') (s + s') := Gw.tr e f fun a ha q => by
  by_cases k : KB l h a
  · exact k
  · have sm := e.sm ha k
    rcases q with q | ⟨q1, q2⟩
    · exact Or.inl q
    · rw [sm.1] at q2
      exact Or.inr ⟨q1, q2⟩
theorem GK.mn (e : GK l h h1 c s) (hl : ∀ k, k ∈ l → k ∈ l') (hc : c ≤ c') (hs : s ≤ s') : GK l' h h1 c' s' := e.up (fun a _ q => by
  rcases q with ⟨q1, q2⟩ | ⟨q1, q2⟩
  · exact Or.inl ⟨q1, hl _ q2⟩
  · exact Or.inr ⟨q1, hl _ q2⟩) hc hs
theorem GK.pl (e : GK l h h1 c s) : Gw h h1 PL c s := e.up (fun a _ q => by
  rcases q with ⟨q1, q2⟩ | ⟨q1, q2⟩
  · exact Or.inl q1
  · exact Or.inr q1) (Nat.le_refl _) (Nat.le_refl _)
theorem GK.sm' (e : GK l h h1 c s) (ha : a < hpN h) (h99 : a ≠ 99) (hk : (hpS h a).1 ∉ l) : Sm h h1 a := e.sm ha fun q => by
  rcases q with ⟨q1, q2⟩ | ⟨q1, q2⟩
  · exact h99 q1
  · exact hk q2
theorem GK.s99 (e : GK l h h1 c s) (ha : 433 ≤ hpN h) (h16 : 16 ∉ l) : Sm h h1 99 := e.sm (by omega) fun q => by
  rcases q with ⟨q1, q2⟩ | ⟨q1, q2⟩
  · exact h16 q2
  · omega
theorem GK.sb (e : GK l h h1 c s) (hx : SB h x t) (h17 : 17 ∉ l) (h53 : 53 ∉ l) : SB h1 x t := by
  obtain ⟨cap, ⟨⟨b1, b2, b3, _⟩, ⟨b4, _, b5, _⟩, _⟩, _⟩ := id hx
  refine hx.sm e (fun q => ?_) (fun q => ?_)
  · rcases q with ⟨q1, q2⟩ | ⟨q1, q2⟩
    · omega
    · rw [b3] at q2; exact h17 q2
  · rcases q with ⟨q1, q2⟩ | ⟨q1, q2⟩
    · omega
    · rw [b5] at q2; exact h53 q2
theorem GK.st (e : GK l h h1 c s) (hs : ST h z t) (h18 : 18 ∉ l) (h53 : 53 ∉ l) : ST h1 z t := by
  refine hs.sm e fun hz => ?_
  obtain ⟨_, ⟨a1, a2, _⟩ | ⟨a1, a2, a3, a4, a5, a6, a7, a8⟩⟩ := id hs
  · omega
  · refine ⟨fun q => ?_, fun q => ?_⟩
    · rcases q with ⟨q1, q2⟩ | ⟨q1, q2⟩
      · omega
      · rw [a3] at q2; exact h18 q2
    · rcases q with ⟨q1, q2⟩ | ⟨q1, q2⟩
      · omega
      · rw [a7] at q2; exact h53 q2
theorem GK.sa {d : Nat} {T : Tr d} (e : GK l h h1 c s) (hs : SA h d a T) (h14 : 14 ∉ l) (h73 : 73 ∉ l) : SA h1 d a T := hs.ex e fun a h1 _ hk q => by
  rcases q with ⟨q1, q2⟩ | ⟨q1, q2⟩
  · omega
  · rcases hk with hk | hk
    · rw [hk] at q2; exact h14 q2
    · rw [hk] at q2; exact h73 q2
theorem SB.gk (hx : SB h x t) (e : Gw h h1 (own h x) c s) : GK [17, 53] h h1 c s := by
  obtain ⟨cap, ⟨⟨b1, b2, b3, _⟩, ⟨b4, _, b5, _⟩, _⟩, _⟩ := hx
  refine GK.of e fun a ha q => Or.inr ?_
  rcases q with q | q
  · rw [q, b3]; exact ⟨b1, by decide⟩
  · rw [q, b5]; exact ⟨b4, by show 53 ∈ [17, 53]; decide⟩
theorem Gw.gk0 (e : Gw h h1 nP c s) (l : List Nat) : GK l h h1 c s := GK.of e fun _ _ q => False.elim q
theorem GK.setI (ha : PL a) (hk : (hpS h a).1 ∈ l) (r : Nat → Int32) (h16 : a = 99 → 16 ∈ l) : GK l h (setI h a r) 0 0 := (Gw.rf 0 0).sI fun _ => by
  rcases ha with q | q
  · exact Or.inl ⟨q, h16 q⟩
  · exact Or.inr ⟨q, hk⟩
theorem GK.setR (ha : 433 ≤ a) (hk : (hpS h a).1 ∈ l) (h17 : 17 ∉ l) (h18 : 18 ∉ l) (r : Nat → Nat) : GK l h (setR h a r) 0 0 := (Gw.rf 0 0).sR (fun _ => Or.inr ⟨ha, hk⟩) fun q => by
  rcases q with q | q
  · rw [q] at hk; exact absurd hk h17
  · rw [q] at hk; exact absurd hk h18
theorem GK.setR99 (hk : (hpS h 99).1 = 16) (h16 : 16 ∈ l) (r : Nat → Nat) : GK l h (CStruckCountsLaw_law_r5327_fb6219.setR h 99 r) 0 0 := (Gw.rf 0 0).sR (fun _ => Or.inl ⟨rfl, h16⟩) fun q => by
  unfold txk at q
  omega
theorem LWs.gk (w : LWs h oa na ma ua su) (e : GK l h h1 c s) (hl : 16 ∉ l ∧ 50 ∉ l ∧ 79 ∉ l ∧ 52 ∉ l ∧ 19 ∉ l) : LWs h1 oa na ma ua su := by
  obtain ⟨w1, ⟨w2, w3⟩, ⟨m, hm, w4⟩, ⟨o1, o2, o3⟩, ⟨m1, m2, m3, m4⟩, ⟨u1, u2, u3, u4, u5⟩, ne⟩ := w
  have le := e.le
  obtain ⟨a1, a2, a3, a4⟩ := e.s99 w1 hl.1
  have s1 : Sm h h1 1 := e.sm (by omega) fun q => by rcases q with ⟨q1, q2⟩ | ⟨q1, q2⟩ <;> omega
  have so := e.sm' o2 (by omega) (by rw [o3]; exact hl.2.1)
  have smm := e.sm' m2 (by omega) (by rw [m3]; exact hl.2.2.1)
  have su := e.sm' u2 (by omega) (by rw [u3]; exact hl.2.2.2.2)
  refine ⟨by omega, ⟨by rw [a1]; exact w2, by rw [a4]; exact w3⟩, ⟨m, hm, by rw [s1.1]; exact w4⟩, ⟨o1, by omega, by rw [so.1]; exact o3⟩, ⟨m1, by omega, by rw [smm.1]; exact m3, fun i hi => ?_⟩, ⟨u1, by omega, by rw [su.1]; exact u3, by rw [su.2.1]; exact u4, by rw [su.2.2.2]; exact u5⟩, ne⟩
  obtain ⟨r1, r2, r3⟩ := m4 i hi
  rw [smm.2.2.2]
  have sr := e.sm' r2 (by omega) (by rw [r3]; exact hl.2.2.2.1)
  exact ⟨r1, by omega, by rw [sr.1]; exact r3⟩
theorem LWi.gk (w : LWi h n F nl) (h4 : 433 ≤ hpN h) (e : GK l h h1 c s) (hl : 16 ∉ l) : LWi h1 n F nl := by
  obtain ⟨a1, a2, a3, a4⟩ := e.s99 h4 hl
  unfold LWi
  rw [a2]; exact w
theorem AL.gk (w : AL h a n f) (e : GK l h h1 c s) (hl : 19 ∉ l ∧ 78 ∉ l) : AL h1 a n f := by
  obtain ⟨w1, w2, w3, w4, w5, w6⟩ := w
  have le := e.le
  have sa := e.sm' w2 (by omega) (by rw [w3]; exact hl.1)
  refine ⟨w1, by omega, by rw [sa.1]; exact w3, by rw [sa.2.1]; exact w4, w5, ?_⟩
  rw [sa.2.2.2]
  rcases w6 with q | ⟨q1, q2, q3, q4⟩
  · exact Or.inl q
  · have sd := e.sm' q2 (by omega) (by rw [q3]; exact hl.2)
    exact Or.inr ⟨q1, by omega, by rw [sd.1]; exact q3, fun i hi => by rw [sd.2.2.2]; exact q4 i hi⟩
theorem LWs.sI (w : LWs h oa na ma ua su) (ha : a ≠ ua) (r : Nat → Int32) : LWs (CStruckCountsLaw_law_r5327_fb6219.setI h a r) oa na ma ua su := by
  obtain ⟨w1, w2, w4, o, mm, ⟨u1, u2, u3, u4, u5⟩, ne⟩ := w
  exact ⟨w1, w2, w4, o, mm, ⟨u1, u2, u3, by rw [setI_I, if_neg (Ne.symm ha)]; exact u4, u5⟩, ne⟩
theorem LWs.sR (w : LWs h oa na ma ua su) (h1 : a ≠ 99) (h2 : a ≠ ma) (h3 : a ≠ ua) (r : Nat → Nat) : LWs (CStruckCountsLaw_law_r5327_fb6219.setR h a r) oa na ma ua su := by
  obtain ⟨w1, ⟨w2, w3⟩, w4, o, ⟨m1, m2, m3, m4⟩, ⟨u1, u2, u3, u4, u5⟩, ne⟩ := w
  exact ⟨w1, ⟨w2, by rw [setR_R, if_neg (Ne.symm h1)]; exact w3⟩, w4, o, ⟨m1, m2, m3, by rw [setR_R, if_neg (Ne.symm h2)]; exact m4⟩, ⟨u1, u2, u3, u4, by rw [setR_R, if_neg (Ne.symm h3)]; exact u5⟩, ne⟩
theorem LWs.nw (w : LWs h oa na ma ua su) (kd n : Nat) : LWs (hpNew kd n h) oa na ma ua su := by
  have e := ((Gw.rf (h := h) (P := nP) 0 0).nw kd n).gk0 []
  exact w.gk e (by decide)
theorem LWs.k99 (w : LWs h oa na ma ua su) : (hpS h 99).1 = 15 + 1 := by rw [w.2.1.1]
/-- a drawn number -/
theorem drw (w : LWs h oa na ma ua su) (li : hpI h 99 2 = nI n) (hn : n < 1000000000) {m : Nat} (hm0 : 0 < m) (hm : m < 2147483648) :
    ∃ j, j < m ∧ mL_draw 99 (nI m) h = some (nI j, setI h 99 (updA (hpI h 99) 2 (nI (n + 1)))) := by
  obtain ⟨w1, ⟨w2, w3, w3', _⟩, ⟨len, hlen, l4⟩, _⟩ := id w
  have k99 := w.k99
  have g1 : ∀ {ρ : Type} (f : Nat → Option ρ), (gR 15 1 99 h).bind f = f 1 := fun f => by rw [gR_ok k99, obind, w3']
  have g2 : gI 15 2 99 h = some (nI n) := by rw [gI_ok k99, li]
  have al : aLen 1 h = some (nI len) := aLen_ok l4 rfl
  have mx : mmax (1 : Int32) (nI len) = nI (max 1 len) := max_d (a := 1) (b := len) (by omega) (by omega)
  obtain ⟨M, hM⟩ : ∃ M, M = max 1 len := ⟨_, rfl⟩
  have hM1 : 0 < M := by omega
  have hM2 : M ≤ 260 := by omega
  have hat : ∃ y, mL_at 1 (nI (n % M)) h = some y := by
    unfold mL_at
    rw [al, obind]
    have hk1 : n % M < M := Nat.mod_lt _ hM1
    by_cases q : n % M < len
    · rw [c_lt q (by omega), ldI_ro (n := len) l4 q (by omega), obind]
      exact at_some _ _ _
    · rw [c_nlt (by omega) (by omega)]
      exact at_some _ _ _
  obtain ⟨y, hy⟩ := hat
  have fin : ∀ z, ∃ j, j < m ∧ mL_draw_b47 (nI m) z (setI h 99 (updA (hpI h 99) 2 (nI (n + 1)))) = some (nI j, setI h 99 (updA (hpI h 99) 2 (nI (n + 1)))) := fun z => by
    unfold mL_draw_b47 mL_draw_b59
    obtain ⟨u, hu, e⟩ := nI_31 ((z * (739982445 : Int32)) ^^^ (ushrI (z * (739982445 : Int32)) (13 : Int32)))
    rw [nzI (fun q => by have := (nI_z (show m < 2 ^ 32 by omega)).mp q; omega), e, nI_rem hu hm0 hm]
    exact ⟨_, Nat.mod_lt _ hm0, rfl⟩
  obtain ⟨j, hj, ej⟩ := fin ((y + (nI n * (668265263 : Int32))) ^^^ (ushrI (y + (nI n * (668265263 : Int32))) (15 : Int32)))
  refine ⟨j, hj, ?_⟩
  have k16 : (hpS h 99).1 = 16 := k99
  unfold mL_draw
  rw [if_pos k16, g1, g2, obind, g1, al, obind, mx, ← hM, nzI (fun q => by have := (nI_z (show M < 2 ^ 32 by omega)).mp q; omega), nI_rem (by omega) hM1 (by omega), hy, obind, obind, obind, nI_1, sI_ok k99, obind]
  exact ej
theorem LWs.dr (w : LWs h oa na ma ua su) (v : Nat → Int32) : LWs (setI h 99 v) oa na ma ua su := w.sI (by have := w.2.2.2.2.2.1.1; omega) v
/-- drawn: all else as it was -/
theorem drawk (w : LWs h oa na ma ua su) (li : LWi h n F nl) (hC : CLO h) (hn : n < 1000000000) {m : Nat} (hm0 : 0 < m) (hm : m < 2147483648) :
    ∃ j h1, j < m ∧ mL_draw 99 (nI m) h = some (nI j, h1) ∧ LWs h1 oa na ma ua su ∧ LWi h1 (n + 1) F nl ∧ CLO h1 ∧ GK [16] h h1 0 0 := by
  obtain ⟨j, hj, e⟩ := drw w li.1 hn hm0 hm
  have g : GK [16] h (setI h 99 (updA (hpI h 99) 2 (nI (n + 1)))) 0 0 := GK.setI (Or.inl rfl) (by rw [w.2.1.1]; decide) _ (fun _ => by decide)
  refine ⟨j, _, hj, e, w.dr _, ?_, hC.ex g, g⟩
  unfold LWi
  rw [setI_I, if_pos rfl, updA_same, updA_ne _ _ (by omega), updA_ne _ _ (by omega)]
  exact ⟨rfl, li.2⟩
/-- a gap -/
def gapT (j : Nat) : List Nat := if j = 0 then [32] else if j = 1 then [10] else []
theorem gap_ok (w : LWs h oa na ma ua su) (li : LWi h n F nl) (hC : CLO h) (hn : n + 2 < 1000000000) :
    ∃ z h1 j n', mL_gap 99 h = some (z, h1) ∧ (∀ h, ST h z (gapT j)) ∧ n' ≤ n + 2 ∧ LWs h1 oa na ma ua su ∧ LWi h1 n' F nl ∧ CLO h1 ∧ GK [16] h h1 0 0 := by
  have k16 : (hpS h 99).1 = 16 := w.k99
  obtain ⟨j, h1, hj, e, w1, li1, C1, g1⟩ := drawk w li hC (by omega) (m := 9) (by omega) (by omega)
  have e : mL_draw 99 (9 : Int32) h = some (nI j, h1) := e
  by_cases q : j = 0
  · obtain ⟨j2, h2, hj2, e2, w2, li2, C2, g2⟩ := drawk w1 li1 C1 (by omega) (m := 2) (by omega) (by omega)
    have e2 : mL_draw 99 (2 : Int32) h1 = some (nI j2, h2) := e2
    by_cases q2 : j2 = 0
    · refine ⟨12, h2, 0, n + 1 + 1, ?_, fun _ => st12, by omega, w2, li2, C2, g1.tr g2⟩
      unfold mL_gap
      rw [if_pos k16, e, b2s, c_0 (by omega), if_pos q, e2, b2s, c_0 (by omega), if_pos q2]
    · refine ⟨13, h2, 1, n + 1 + 1, ?_, fun _ => st13, by omega, w2, li2, C2, g1.tr g2⟩
      unfold mL_gap
      rw [if_pos k16, e, b2s, c_0 (by omega), if_pos q, e2, b2s, c_0 (by omega), if_neg q2]
  · refine ⟨14, h1, 2, n + 1, ?_, fun _ => st14, by omega, w1, li1, C1, g1⟩
    unfold mL_gap
    rw [if_pos k16, e, b2s, c_0 (by omega), if_neg q]
theorem gap_tp (j : Nat) : TpF (gapT j) [] ∧ (gapT j).length ≤ 1 := by
  unfold gapT
  by_cases q : j = 0
  · rw [if_pos q]; exact ⟨TpF.sp (Or.inl rfl), by decide⟩
  · rw [if_neg q]
    by_cases q2 : j = 1
    · rw [if_pos q2]; exact ⟨TpF.sp (Or.inr rfl), by decide⟩
    · rw [if_neg q2]; exact ⟨TpF.nil, by decide⟩
end J0
