/-! WHAT IS SAID, as the law draws it, and whether it holds -/
/-- a tree that lies above a place -/
def SAl (lo : Nat) (h : Hp) : (d : Nat) → Nat → Tr d → Prop
  | 0, a, t => lo ≤ a ∧ a < hpN h ∧ hpS h a = (14, 3) ∧ hpI h a 0 = 0 ∧ hpI h a 1 = nI (tL t)
  | d + 1, a, t => lo ≤ a ∧ a < hpN h ∧ hpS h a = (14, 3) ∧ hpI h a 0 = nI (tK t) ∧ hpI h a 1 = nI (tF t) ∧ (tK t ≠ 0 → lo ≤ hpR h a 2 ∧ hpR h a 2 < hpN h ∧ hpS h (hpR h a 2) = (73, tM t) ∧ ∀ i, i < tM t → SAl lo h d (hpR h (hpR h a 2) i) (tP t i))
def lfT : (d : Nat) → Nat → Tr d
  | 0, o => o
  | d + 1, o => mkT 0 o 0 (fun _ => lfT d o)
def cS : Nat → Nat
  | 0 => 1
  | d + 1 => 2 + 3 * cS d
def sS : Nat → Nat
  | 0 => 3
  | d + 1 => 6 + 3 * sS d
def nS : Nat → Nat
  | 0 => 1
  | d + 1 => 3 + 3 * nS d
theorem cS_1 : ∀ d, 1 ≤ cS d ∧ 3 ≤ sS d ∧ 1 ≤ nS d
  | 0 => ⟨Nat.le_refl _, Nat.le_refl _, Nat.le_refl _⟩
  | d + 1 => ⟨by show 1 ≤ 2 + _; omega, by show 3 ≤ 6 + _; omega, by show 1 ≤ 3 + _; omega⟩
section J1
variable {h h' h0 h1 h2 h3 : Hp} {P P' : Nat → Prop} {c c' s s' z a b n x y m F q oa na ma ua su nl lo d w : Nat} {t u : List Nat} {l l' : List Nat} {f g : Nat → Nat}
theorem SAl.sa (hl : 433 ≤ lo) : ∀ {d a : Nat} {T : Tr d}, SAl lo h d a T → SA h d a T
  | 0, a, T, ⟨a1, a2, a3, a4, a5⟩ => ⟨by omega, a2, a3, a4, a5⟩
  | d + 1, a, T, ⟨a1, a2, a3, a4, a5, a6⟩ => ⟨by omega, a2, a3, a4, a5, fun q => by
      obtain ⟨b1, b2, b3, b4⟩ := a6 q
      exact ⟨by omega, b2, b3, fun i hi => SAl.sa hl (b4 i hi)⟩⟩
theorem SAl.dn (hl : b ≤ lo) : ∀ {d a : Nat} {T : Tr d}, SAl lo h d a T → SAl b h d a T
  | 0, a, T, ⟨a1, a2, a3, a4, a5⟩ => ⟨by omega, a2, a3, a4, a5⟩
  | d + 1, a, T, ⟨a1, a2, a3, a4, a5, a6⟩ => ⟨by omega, a2, a3, a4, a5, fun q => by
      obtain ⟨b1, b2, b3, b4⟩ := a6 q
      exact ⟨by omega, b2, b3, fun i hi => SAl.dn hl (b4 i hi)⟩⟩
theorem SAl.keep (hN : hpN h ≤ hpN h') (hk : ∀ a, lo ≤ a → a < hpN h → ((hpS h a).1 = 14 ∨ (hpS h a).1 = 73) → Sm h h' a) : ∀ {d a : Nat} {T : Tr d}, SAl lo h d a T → SAl lo h' d a T
  | 0, a, T, ⟨a1, a2, a3, a4, a5⟩ => by
    obtain ⟨g1, g2, g3, g4⟩ := hk a a1 a2 (Or.inl (by rw [a3]))
    exact ⟨a1, by omega, by rw [g1]; exact a3, by rw [g2]; exact a4, by rw [g2]; exact a5⟩
  | d + 1, a, T, ⟨a1, a2, a3, a4, a5, a6⟩ => by
    obtain ⟨g1, g2, g3, g4⟩ := hk a a1 a2 (Or.inl (by rw [a3]))
    refine ⟨a1, by omega, by rw [g1]; exact a3, by rw [g2]; exact a4, by rw [g2]; exact a5, fun q => ?_⟩
    obtain ⟨b1, b2, b3, b4⟩ := a6 q
    obtain ⟨k1, k2, k3, k4⟩ := hk (hpR h a 2) b1 b2 (Or.inr (by rw [b3]))
    rw [g4]
    exact ⟨b1, by omega, by rw [k1]; exact b3, fun i hi => by rw [k4]; exact SAl.keep hN hk (b4 i hi)⟩
/-- a bit, as the law reads it -/
theorem bit1 (hw : w < 256) {f : Nat} (hf : f < 8) {α : Type} (A B : α) : (if ((nI w >>> (nI f &&& 31)) &&& (1 : Int32)) = (1 : Int32) then A else B) = if w.testBit f = true then A else B := by
  rw [nx_shr (by omega) (by omega), show (1 : Int32) = nI 1 from rfl, nx_and, Nat.and_one_is_mod, Nat.shiftRight_eq_div_pow, ← Nat.toNat_testBit]
  cases w.testBit f
  · rw [if_neg (by decide), if_neg (by decide)]
  · rw [if_pos (show nI true.toNat = nI 1 from rfl), if_pos rfl]
theorem hold_d (hw : w < 256) : ∀ (d n a : Nat) (T : Tr d), d + 1 ≤ n → SA h d a T → okT 8 d T → mg_X13_holds n a (nI w) h = some (bI (hT d T w), h)
  | 0, n, a, T, hn, ⟨a1, a2, a3, a4, a5⟩, ok => by
    obtain ⟨n, rfl⟩ : ∃ k, n = k + 1 := ⟨n - 1, by omega⟩
    show mX13_holds_F (mg_X13_holds n) a (nI w) h = _
    have k14 : (hpS h a).1 = 13 + 1 := by rw [a3]
    have k14' : (hpS h a).1 = 14 := k14
    unfold mX13_holds_F
    rw [if_pos k14', gI_ok k14, obind, a4, if_pos rfl, gI_ok k14, obind, a5, bit1 hw ok]
    show _ = some (bI (w.testBit (tL T)), h)
    cases w.testBit (tL T) <;> rfl
  | d + 1, n, a, T, hn, ⟨a1, a2, a3, a4, a5, a6⟩, ⟨o1, o2, o3, o4⟩ => by
    obtain ⟨n, rfl⟩ : ∃ k, n = k + 1 := ⟨n - 1, by omega⟩
    show mX13_holds_F (mg_X13_holds n) a (nI w) h = _
    have k14 : (hpS h a).1 = 13 + 1 := by rw [a3]
    have k14' : (hpS h a).1 = 14 := k14
    unfold mX13_holds_F
    by_cases q0 : tK T = 0
    · rw [if_pos k14', gI_ok k14, obind, a4, c_0 (by omega), if_pos q0, gI_ok k14, obind, a5, bit1 hw (o2 q0)]
      show _ = some (bI (if tK T = 0 then w.testBit (tF T) else _), h)
      rw [if_pos q0]
      cases w.testBit (tF T) <;> rfl
    · obtain ⟨b1, b2, b3, b4⟩ := a6 q0
      obtain ⟨m1, m3, mk1, m2, okp⟩ := o3 q0
      have ih := fun i (hi : i < tM T) => hold_d hw d n _ (tP T i) (by omega) (b4 i hi) (okp i hi)
      rw [if_pos k14', gI_ok k14, obind, a4, c_0 (by omega), if_neg q0, gR_ok k14, obind, aLen_ok b3 (by decide), obind]
      unfold mX13_holds_l39
      have cl := cntB_le (fun i => hT d (tP T i) w) (tM T)
      refine lp_traj (f := fun s : (Int32 × Int32 × Hp) => mX13_holds_l39f (mg_X13_holds n) a (nI w) (hpR h a 2) (nI (tM T)) s.1 s.2.1 s.2.2) (tM T) (fun i => (nI (cntB (fun i => hT d (tP T i) w) i), nI i, h)) _ (fun i hi => ?_) ?_
      · show mX13_holds_l39f (mg_X13_holds n) a (nI w) (hpR h a 2) (nI (tM T)) (nI (cntB (fun i => hT d (tP T i) w) i)) (nI i) h = _
        unfold mX13_holds_l39f mX13_holds_b67
        rw [c_lt hi (by omega), ldR_ok (n := tM T) b3 hi (by omega), obind, ih i hi, b2s, nI_1]
        show _ = some (Sum.inl (nI (cntB (fun i => hT d (tP T i) w) i + (if hT d (tP T i) w = true then 1 else 0)), nI (i + 1), h) : (Int32 × Int32 × Hp) ⊕ (Int32 × Hp))
        cases hT d (tP T i) w
        · rw [if_pos (by rfl), if_neg (by decide)]
          show some (Sum.inl (nI _ + nI 0, _, _)) = _
          rw [nI_add]
        · rw [if_neg (by decide), if_pos rfl]
          show some (Sum.inl (nI _ + nI 1, _, _)) = _
          rw [nI_add]
      · show mX13_holds_l39f (mg_X13_holds n) a (nI w) (hpR h a 2) (nI (tM T)) (nI (cntB (fun i => hT d (tP T i) w) (tM T))) (nI (tM T)) h = some (Sum.inr (bI (if tK T = 0 then w.testBit (tF T) else if tK T = 1 then decide (cntB (fun i => hT d (tP T i) w) (tM T) = 0) else if tK T = 2 then decide (cntB (fun i => hT d (tP T i) w) (tM T) = tM T) else if tK T = 3 then decide (0 < cntB (fun i => hT d (tP T i) w) (tM T)) else decide (tF T ≤ cntB (fun i => hT d (tP T i) w) (tM T))), h))
        obtain ⟨C, hC⟩ : ∃ C, C = cntB (fun i => hT d (tP T i) w) (tM T) := ⟨_, rfl⟩
        rw [← hC] at cl ⊢
        unfold mX13_holds_l39f
        rw [c_nlt (Nat.le_refl _) (by omega), if_neg q0, gI_ok k14, obind, a4, show (1 : Int32) = nI 1 from rfl, c_eqd (by omega) (by omega)]
        by_cases q1 : tK T = 1
        · rw [if_pos q1, if_pos q1, c_0 (by omega)]
          by_cases e : C = 0
          · rw [if_pos e, decide_eq_true e]; rfl
          · rw [if_neg e, decide_eq_false e]; rfl
        · rw [if_neg q1, if_neg q1, obind, show (2 : Int32) = nI 2 from rfl, c_eqd (by omega) (by omega)]
          by_cases q2 : tK T = 2
          · rw [if_pos q2, if_pos q2, gR_ok k14, obind, aLen_ok b3 (by decide), obind, c_eqd (by omega) (by omega)]
            by_cases e : C = tM T
            · rw [if_pos e, decide_eq_true e]; rfl
            · rw [if_neg e, decide_eq_false e]; rfl
          · rw [if_neg q2, if_neg q2, obind, show (3 : Int32) = nI 3 from rfl, c_eqd (by omega) (by omega)]
            by_cases q3 : tK T = 3
            · rw [if_pos q3, if_pos q3]
              by_cases e : 0 < C
              · rw [if_pos (show (0 : Int32) < nI C from nI_lt (a := 0) e (by omega)), decide_eq_true e]; rfl
              · rw [if_neg (show ¬ (0 : Int32) < nI C from nI_nlt (a := 0) (by omega) (by omega)), decide_eq_false e]; rfl
            · have q4 : tK T = 4 := by omega
              have f4 := o4 q4
              rw [if_neg q3, if_neg q3, gI_ok k14, obind, a5]
              by_cases e : C < tF T
              · rw [c_lt e (by omega), decide_eq_false (by omega)]; rfl
              · rw [c_nlt (by omega) (by omega), decide_eq_true (by omega)]; rfl
theorem l_hold1 {T : Tr d} (hd : d ≤ 2) (hw : w < 256) (hs : SA h d a T) (ok : okT 8 d T) : mX13_holds 40 a (nI w) h = some (bI (hT d T w), h) := hold_d hw d 40 a T (by omega) hs ok
theorem LWi.nw (w : LWi h n F nl) (h4 : 433 ≤ hpN h) (kd m : Nat) : LWi (hpNew kd m h) n F nl := by
  unfold LWi
  rw [nw_I (by omega)]
  exact w
theorem LWi.sI (w : LWi h n F nl) (ha : a ≠ 99) (r : Nat → Int32) : LWi (CStruckCountsLaw_law_r5327_fb6219.setI h a r) n F nl := by
  unfold LWi
  rw [setI_I, if_neg (Ne.symm ha)]
  exact w
theorem ok_lf {F o : Nat} (ho : o < F) : ∀ d, okT F d (lfT d o)
  | 0 => ho
  | d + 1 => ⟨by show 0 ≤ 4; omega, fun _ => ho, fun q => absurd rfl q, fun q => by cases q⟩
theorem sa_lf {o : Nat} (h1 : lo ≤ a) (h2 : a < hpN h) (h3 : hpS h a = (14, 3)) (h4 : hpI h a 0 = 0) (h5 : hpI h a 1 = nI o) : ∀ d, SAl lo h d a (lfT d o)
  | 0 => ⟨h1, h2, h3, h4, h5⟩
  | d + 1 => ⟨h1, h2, h3, h4, h5, fun q => absurd rfl q⟩
/-- a Said is made: its cell is the last one -/
theorem mk13 (E : GK [16] h0 h c s) (hC0 : CLO h0) (w : LWs h oa na ma ua su) (li : LWi h n F nl) (k o p : Nat) :
    ∃ h', mX13_init (hpN h) (nI k) (nI o) p (hpNew 14 3 h) = some h' ∧ hpN h' = hpN h + 1 ∧ (∀ b, b ≠ hpN h → Sm h h' b) ∧ hpS h' (hpN h) = (14, 3) ∧ hpI h' (hpN h) 0 = nI k ∧ hpI h' (hpN h) 1 = nI o ∧ hpR h' (hpN h) 2 = p ∧ LWs h' oa na ma ua su ∧ LWi h' n F nl ∧ CLO h' ∧ GK [16] h0 h' (c + 1) (s + 3) := by
  have w1 := w.1
  have u1 := w.2.2.2.2.2.1
  have m1 := w.2.2.2.2.1
  have k14 : (hpS (hpNew 14 3 h) (hpN h)).1 = 13 + 1 := by rw [nw_S, if_pos rfl]
  have E1 := E.nw 14 3
  have xx := E.le
  have E2 := E1.sI (a := hpN h) (r := updA (hpI (hpNew 14 3 h) (hpN h)) 0 (nI k)) (fun q => by omega)
  have E3 := E2.sI (a := hpN h) (r := updA (hpI (setI (hpNew 14 3 h) (hpN h) (updA (hpI (hpNew 14 3 h) (hpN h)) 0 (nI k))) (hpN h)) 1 (nI o)) (fun q => by omega)
  have E4 := E3.sR (a := hpN h) (r := updA (hpR (hpNew 14 3 h) (hpN h)) 2 p) (fun q => by omega) (fun q => by
    unfold txk at q
    have q : (hpS (hpNew 14 3 h) (hpN h)).1 = 17 ∨ (hpS (hpNew 14 3 h) (hpN h)).1 = 18 := q
    omega)
  refine ⟨_, ?_, rfl, fun b hb => ?_, ?_, ?_, ?_, ?_, (((w.nw 14 3).sI (by omega) _).sI (by omega) _).sR (by omega) (by omega) (by omega) _, ((li.nw w1 14 3).sI (a := hpN h) (by omega) _).sI (a := hpN h) (by omega) _, hC0.ex E4, E4⟩
  · unfold mX13_init
    rw [sI_ok k14, obind, sI_ok (by exact k14), obind, sR_ok (by exact k14), obind]
    rfl
  · refine ⟨?_, ?_, ?_, ?_⟩
    · show hpS (hpNew 14 3 h) b = _
      rw [nw_S, if_neg hb]
    · show hpI (setI (setI (hpNew 14 3 h) (hpN h) _) (hpN h) _) b = _
      rw [setI_I, if_neg hb, setI_I, if_neg hb, nw_I hb]
    · show hpL (hpNew 14 3 h) b = _
      rw [nw_L hb]
    · rw [setR_R, if_neg hb]
      show hpR (hpNew 14 3 h) b = _
      rw [nw_R hb]
  · show hpS (hpNew 14 3 h) (hpN h) = _
    rw [nw_S, if_pos rfl]
  · show hpI (setI (setI (hpNew 14 3 h) (hpN h) _) (hpN h) _) (hpN h) 0 = _
    rw [setI_I, if_pos rfl, updA_ne _ _ (by omega), setI_I, if_pos rfl, updA_same]
  · show hpI (setI (setI (hpNew 14 3 h) (hpN h) _) (hpN h) _) (hpN h) 1 = _
    rw [setI_I, if_pos rfl, updA_same]
  · rw [setR_R, if_pos rfl, updA_same]
/-- a tree is drawn -/
def sdP (oa na ma ua su d e fu : Nat) : Prop := ∀ ⦃h : Hp⦄ ⦃n F nl : Nat⦄, LWs h oa na ma ua su → LWi h n F nl → CLO h → 1 ≤ F → F ≤ 8 → n + nS d < 1000000000 →
  ∃ a h' T n', mg_L_said fu 99 (nI F) (nI e) h = some (a, h') ∧ SAl (hpN h) h' d a T ∧ okT F d T ∧ LWs h' oa na ma ua su ∧ LWi h' n' F nl ∧ n' ≤ n + nS d ∧ CLO h' ∧ GK [16] h h' (cS d) (sS d)
theorem leaf_sd {G : GTL_said} (E : GK [16] h0 h c s) (hC0 : CLO h0) (w : LWs h oa na ma ua su) (li : LWi h n F nl) (F1 : 1 ≤ F) (F8 : F ≤ 8) (hn : n + 1 < 1000000000) (d : Nat) :
    ∃ a h' T, mL_said_b24 G 99 (nI F) h = some (a, h') ∧ SAl (hpN h0) h' d a T ∧ okT F d T ∧ LWs h' oa na ma ua su ∧ LWi h' (n + 1) F nl ∧ CLO h' ∧ GK [16] h0 h' (c + 1) (s + 3) := by
  have w1 := w.1
  have hC := hC0.ex E
  have xx := E.le
  have E1 := E.nw 14 3
  have wN := w.nw 14 3
  have liN := li.nw w1 14 3
  obtain ⟨j, h1, hj, e1, w2, li2, C2, g2⟩ := drawk wN liN (hC0.ex E1) (by omega) (m := F) (by omega) (by omega)
  have E2 := GK.tr E1 g2
  have ne99 : hpN h ≠ 99 := by omega
  have k14 : (hpS (hpNew 14 3 h) (hpN h)).1 = 13 + 1 := by rw [nw_S, if_pos rfl]
  have sm := g2.sm' (a := hpN h) (by rw [nw_N]; omega) ne99 (by rw [k14]; decide)
  have k14' : (hpS h1 (hpN h)).1 = 13 + 1 := by rw [sm.1]; exact k14
  have E3 := E2.sI (a := hpN h) (r := updA (hpI h1 (hpN h)) 0 (nI 0)) (fun q => by omega)
  have E4 := E3.sI (a := hpN h) (r := updA (hpI (setI h1 (hpN h) (updA (hpI h1 (hpN h)) 0 (nI 0))) (hpN h)) 1 (nI j)) (fun q => by omega)
  have E5 := E4.sR (a := hpN h) (r := updA (hpR h1 (hpN h)) 2 0) (fun q => by omega) (fun q => by
    have q : (hpS h1 (hpN h)).1 = 17 ∨ (hpS h1 (hpN h)).1 = 18 := q
    omega)
  have nle := g2.le
  rw [nw_N] at nle
  have u1 := w.2.2.2.2.2.1
  have m1 := w.2.2.2.2.1
  refine ⟨hpN h, _, lfT d j, ?_, sa_lf (o := j) (by omega) (by show hpN h < hpN h1; omega) ?_ ?_ ?_ d, ok_lf hj d, ((w2.sI (by omega) _).sI (by omega) _).sR (by omega) (by omega) (by omega) _, (li2.sI (a := hpN h) (by omega) _).sI (a := hpN h) (by omega) _, hC0.ex E5, E5⟩
  · unfold mL_said_b24 mX13_init
    rw [newO_ok 13 3 hC.1, b2s, e1, b2s, show (0 : Int32) = nI 0 from rfl, sI_ok k14', obind, sI_ok (by exact k14'), obind, sR_ok (by exact k14'), obind]
    rfl
  · show hpS h1 (hpN h) = _
    rw [sm.1, nw_S, if_pos rfl]
  · show hpI (setI (setI h1 (hpN h) _) (hpN h) _) (hpN h) 0 = _
    rw [setI_I, if_pos rfl, updA_ne _ _ (by omega), setI_I, if_pos rfl, updA_same]; rfl
  · show hpI (setI (setI h1 (hpN h) _) (hpN h) _) (hpN h) 1 = _
    rw [setI_I, if_pos rfl, updA_same]
end J1
