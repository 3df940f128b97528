/-! LINES, written; whether they fit -/
def TQ (h : Hp) (oa na ma ua su n F nl : Nat) : Prop := LWs h oa na ma ua su ∧ LWi h n F nl ∧ CLO h
/-- a line's builder, made since h0 -/
def BW (h0 h : Hp) (x : Nat) (t : List Nat) (c s oa na ma ua su n F nl : Nat) : Prop := hpN h0 ≤ x ∧ SB h x t ∧ GK [16] h0 h c s ∧ TQ h oa na ma ua su n F nl
section J5
variable {h h' h0 h1 h2 h3 : Hp} {P P' : Nat → Prop} {c c' s s' z a b n n' x y m F q oa na ma ua su nl lo d w e v : Nat} {t u : List Nat} {l l' : List Nat} {f g : Nat → Nat} {Ts : Nat → Tr 2}
theorem TQ.gk (q : TQ h oa na ma ua su n F nl) (e : GK l h h1 c s) (hl : 16 ∉ l ∧ 50 ∉ l ∧ 79 ∉ l ∧ 52 ∉ l ∧ 19 ∉ l) : TQ h1 oa na ma ua su n F nl := ⟨q.1.gk e hl, q.2.1.gk q.1.1 e hl.1, q.2.2.ex e⟩
theorem TQ.np (q : TQ h oa na ma ua su n F nl) (e : Gw h h1 nP c s) : TQ h1 oa na ma ua su n F nl := q.gk (e.gk0 []) (by decide)
theorem TQ.bd (q : TQ h oa na ma ua su n F nl) (hx : SB h x t) (e : Gw h h1 (own h x) c s) : TQ h1 oa na ma ua su n F nl := q.gk (hx.gk e) (by decide)
theorem TQ.draw (q : TQ h oa na ma ua su n F nl) (hn : n < 1000000000) {m : Nat} (hm0 : 0 < m) (hm : m < 2147483648) : ∃ j h1, j < m ∧ mL_draw 99 (nI m) h = some (nI j, h1) ∧ TQ h1 oa na ma ua su (n + 1) F nl ∧ GK [16] h h1 0 0 := by
  obtain ⟨j, h1, hj, e, w1, li1, C1, g1⟩ := drawk q.1 q.2.1 q.2.2 hn hm0 hm
  exact ⟨j, h1, hj, e, ⟨w1, li1, C1⟩, g1⟩
theorem BW.new (q : TQ h oa na ma ua su n F nl) : ∃ h', (∀ {ρ : Type} (K : Nat → Hp → Option ρ), (b2 (newO 16 4 h) fun v h1 => (mJ4_init_da8c8 v h1).bind fun h2 => K v h2) = K (hpN h) h') ∧ BW h h' (hpN h) [] 2 20 oa na ma ua su n F nl := by
  obtain ⟨h', e, sb, ex⟩ := nsb_ok q.2.2 q.1.1
  exact ⟨h', e, Nat.le_refl _, sb, ex.gk0 _, q.np ex⟩
theorem BW.app (b : BW h0 h x t c s oa na ma ua su n F nl) (hs : ST h z u) (hl : t.length + u.length ≤ 600) : ∃ h', mJ4_append_15ec4 x z h = some (x, h') ∧ BW h0 h' x (t ++ u) (c + 1) (s + 1202) oa na ma ua su n F nl := by
  obtain ⟨b1, b2, b3, q⟩ := b
  obtain ⟨h', e, sb, ex⟩ := app_ok q.2.2 b2 hs (by omega)
  exact ⟨h', e, b1, sb, (Gw.tr b3 ex (fun a ha z => absurd z (own_new b3 b2 b1 a ha))).up (fun _ _ z => z) (Nat.le_refl _) (by omega), q.bd b2 ex⟩
theorem BW.ch (b : BW h0 h x t c s oa na ma ua su n F nl) {d : Nat} (hd : d < 128) (hl : t.length + 1 ≤ 600) : ∃ h', mJ4_append_cf468 x (nI d) h = some (x, h') ∧ BW h0 h' x (t ++ [d]) (c + 1) (s + 1202) oa na ma ua su n F nl := by
  obtain ⟨b1, b2, b3, q⟩ := b
  obtain ⟨h', e, sb, ex⟩ := appch_ok q.2.2 b2 hd (by omega)
  exact ⟨h', e, b1, sb, (Gw.tr b3 ex (fun a ha z => absurd z (own_new b3 b2 b1 a ha))).up (fun _ _ z => z) (Nat.le_refl _) (by omega), q.bd b2 ex⟩
theorem BW.num (b : BW h0 h x t c s oa na ma ua su n F nl) {v : Nat} (hv : v < 1000) (hl : t.length + 3 ≤ 600) : ∃ h', mJ4_append_bf812 x (nI v) h = some (x, h') ∧ BW h0 h' x (t ++ dcm v) (c + 1) (s + 1208) oa na ma ua su n F nl := by
  obtain ⟨b1, b2, b3, q⟩ := b
  obtain ⟨h', e, sb, ex⟩ := appi_ok q.2.2 b2 hv (by omega)
  exact ⟨h', e, b1, sb, (Gw.tr b3 ex (fun a ha z => absurd z (own_new b3 b2 b1 a ha))).up (fun _ _ z => z) (Nat.le_refl _) (by omega), q.bd b2 ex⟩
theorem BW.np (b : BW h0 h x t c s oa na ma ua su n F nl) (e : Gw h h1 nP c' s') : BW h0 h1 x t (c + c') (s + s') oa na ma ua su n F nl :=
  ⟨b.1, b.2.1.fr e, GK.tr b.2.2.1 (e.gk0 _), b.2.2.2.np e⟩
theorem BW.dr (b : BW h0 h x t c s oa na ma ua su n F nl) (e : GK [16] h h1 c' s') (q : TQ h1 oa na ma ua su n' F nl) : BW h0 h1 x t (c + c') (s + s') oa na ma ua su n' F nl :=
  ⟨b.1, e.sb b.2.1 (by decide) (by decide), GK.tr b.2.2.1 e, q⟩
theorem BW.tos (b : BW h0 h x t c s oa na ma ua su n F nl) (hl : t.length ≤ 600) : ∃ z h', mJ4_toString_0e30d x h = some (z, h') ∧ ST h' z t ∧ GK [16] h0 h' (c + 2) (s + 604) ∧ TQ h' oa na ma ua su n F nl := by
  obtain ⟨b1, b2, b3, q⟩ := b
  obtain ⟨z, h', e, st, ex, ez⟩ := tos_ok q.2.2 b2 (by omega)
  exact ⟨z, h', e, st, (GK.tr b3 (ex.gk0 _)).up (fun _ _ z => z) (Nat.le_refl _) (by omega), q.np ex⟩
/-- the names of facts and counts -/
theorem w_fact (q : TQ h oa na ma ua su n F nl) {f : Nat} (hf : f < 8) : ∃ z h', mL_fact (nI f) h = some (z, h') ∧ ST h' z [97 + f] ∧ Gw h h' nP 6 3028 := by
  obtain ⟨g1, e1, b1⟩ := BL.new q.2.2 q.1.1
  obtain ⟨g2, e2, b2', _⟩ := b1.app (u := []) st14 (by decide)
  obtain ⟨g3, e3, b3, _⟩ := b2'.ch (d := 97 + f) (by omega) (by decide)
  obtain ⟨z, g4, e4, st, x4, _⟩ := b3.tos (by show 1 ≤ 3000; omega)
  refine ⟨z, g4, ?_, st, x4.up (fun _ _ z => z) (by omega) (by show 20 + (2 * (0 + 0) + 2) + (2 * (0 + 1) + 2) + (4 + 1) ≤ 3028; omega)⟩
  unfold mL_fact
  rw [e1, e2, b2s, ch_f hf, e3, b2s, e4, b2s]
theorem w_count (q : TQ h oa na ma ua su n F nl) {k : Nat} (hk : k < 8) : ∃ z h', mL_count (nI k) h = some (z, h') ∧ ST h' z [99, 97 + k] ∧ Gw h h' nP 6 3028 := by
  obtain ⟨g1, e1, b1⟩ := BL.new q.2.2 q.1.1
  obtain ⟨g2, e2, b2', _⟩ := b1.app (u := [99]) st26 (by decide)
  obtain ⟨g3, e3, b3, _⟩ := b2'.ch (d := 97 + k) (by omega) (by decide)
  obtain ⟨z, g4, e4, st, x4, _⟩ := b3.tos (by show 2 ≤ 3000; omega)
  refine ⟨z, g4, ?_, st, x4.up (fun _ _ z => z) (by omega) (by show 20 + (2 * (0 + 1) + 2) + (2 * (1 + 1) + 2) + (4 + 2) ≤ 3028; omega)⟩
  unfold mL_count
  rw [e1, e2, b2s, ch_f hk, e3, b2s, e4, b2s]
theorem sb_len (hx : SB h x t) : mJ4_length_8abf5 x h = some (nI t.length) := by
  obtain ⟨cap, hx, _⟩ := hx
  have k := hx.kx
  have k' : (hpS h x).1 = 17 := k
  unfold mJ4_length_8abf5 mJ5_length_8abf5
  rw [if_pos k', if_pos k', gI_ok k, obind, hx.1.2.2.2.2]
  rfl
/-- a line fits, or doesn't -/
theorem fits_ok (q : TQ h oa na ma ua su n F nl) (hx : SB h x t) (ht : t.length ≤ 472) (hs : ST h z u) (hu : u.length ≤ 600) (hn : n + 2 < 1000000000) (hnl : nl < 1000) :
    (470 < t.length + u.length ∧ mL_fits 99 x z h = some (0, h)) ∨
    (t.length + u.length ≤ 470 ∧ ∃ h' n' j, mL_fits 99 x z h = some (1, h') ∧ TQ h' oa na ma ua su n' F (nl + 1) ∧ n' ≤ n + 2 ∧ SB h' x (t ++ ((u ++ [59]) ++ gapT j)) ∧ GK [16, 17, 53] h h' 3 3000) := by
  have k16 : (hpS h 99).1 = 16 := q.1.k99
  by_cases hle : t.length + u.length ≤ 470
  · refine Or.inr ⟨hle, ?_⟩
    obtain ⟨h1, e1, s1, x1⟩ := app_ok q.2.2 hx hs (by omega)
    have q1 := q.bd hx x1
    obtain ⟨h2, e2, s2, x2⟩ := appch_ok (d := 59) q1.2.2 s1 (by omega) (by rw [List.length_append]; omega)
    have q2 := q1.bd s1 x2
    obtain ⟨z3, h3, j, n3, e3, st3, hn3, w3, li3, C3, g3⟩ := gap_ok q2.1 q2.2.1 q2.2.2 hn
    have s3 := g3.sb s2 (by decide) (by decide)
    have gl := (gap_tp j).2
    obtain ⟨h4, e4, s4, x4⟩ := app_ok C3 s3 (st3 h3) (by rw [List.length_append, List.length_append, List.length_singleton]; omega)
    have q3 : TQ h3 oa na ma ua su n3 F nl := ⟨w3, li3, C3⟩
    have q4 := q3.bd s3 x4
    have k4 := q4.1.k99
    have gA := GK.mn (hx.gk x1) (l' := [16, 17, 53]) (fun k hk => by simp at hk ⊢; omega) (Nat.le_refl _) (Nat.le_refl _)
    have gB := GK.mn (s1.gk x2) (l' := [16, 17, 53]) (fun k hk => by simp at hk ⊢; omega) (Nat.le_refl _) (Nat.le_refl _)
    have gC := GK.mn g3 (l' := [16, 17, 53]) (fun k hk => by simp at hk ⊢; omega) (Nat.le_refl _) (Nat.le_refl _)
    have gD := GK.mn (s3.gk x4) (l' := [16, 17, 53]) (fun k hk => by simp at hk ⊢; omega) (Nat.le_refl _) (Nat.le_refl _)
    have gE0 : GK [16] h4 (setI h4 99 (updA (hpI h4 99) 5 (nI (nl + 1)))) 0 0 := GK.setI (Or.inl rfl) (by rw [k4]; decide) _ (fun _ => by decide)
    have gE := GK.mn gE0 (l' := [16, 17, 53]) (fun k hk => by simp at hk ⊢; omega) (Nat.le_refl _) (Nat.le_refl _)
    have gT := GK.tr (GK.tr (GK.tr (GK.tr gA gB) gC) gD) gE
    have et : t ++ ((u ++ [59]) ++ gapT j) = ((t ++ u) ++ [59]) ++ gapT j := by rw [List.append_assoc, List.append_assoc, List.append_assoc]
    refine ⟨_, n3, j, ?_, ⟨q4.1.dr _, ?_, q4.2.2.ex gE⟩, hn3, by rw [et]; exact gE0.sb s4 (by decide) (by decide), gT.up (fun _ _ z => z) (by omega) (by simp only [List.length_append, List.length_singleton]; omega)⟩
    · unfold mL_fits
      rw [if_pos k16, sb_len hx, obind, hs.len, obind, nI_add, if_neg (show ¬ (470 : Int32) < nI (t.length + u.length) from nI_nlt (a := 470) (by omega) (by omega)), e1, b2s, show (59 : Int32) = nI 59 from rfl, e2, b2s, e3, b2s, e4, b2s, gI_ok k4, obind, q4.2.1.2.2, nI_1, sI_ok k4, obind]
    · unfold LWi
      rw [setI_I, if_pos rfl, updA_ne _ _ (by omega), updA_ne _ _ (by omega), updA_same]
      exact ⟨q4.2.1.1, q4.2.1.2.1, rfl⟩
  · refine Or.inl ⟨by omega, ?_⟩
    unfold mL_fits
    rw [if_pos k16, sb_len hx, obind, hs.len, obind, nI_add, if_pos (show (470 : Int32) < nI (t.length + u.length) from nI_lt (a := 470) (by omega) (by omega))]
/-- lines for every parser -/
def LZ (k : Nat) (R : List (Nat × Nat)) (v v' : Vt) : Prop := ∀ (σ : Sg) (X : Nat → Nat) (n m la s : Nat), isLa la → gpl σ = la → gps σ = s → (s = 268 ∨ s = 275) → LSq σ X n m la s k R v v'
def LY (R : List (Nat × Nat)) (v v' : Vt) : Prop := ∀ (σ : Sg) (X : Nat → Nat) (n m la s : Nat), isLa la → gpl σ = la → gps σ = s → (s = 268 ∨ s = 275) → LN σ X n m la s R v v'
theorem LZ.nil (v : Vt) : LZ 0 [] v v := fun _ _ _ _ _ _ _ _ _ _ => LSq.nil
theorem LZ.snoc {k : Nat} {R R' : List (Nat × Nat)} {v v1 v2 : Vt} (a : LZ k R v v1) (b : LY R' v1 v2) : LZ (k + 1) (R ++ R') v v2 := fun σ X n m la s h1 h2 h3 h4 => (a σ X n m la s h1 h2 h3 h4).app ((b σ X n m la s h1 h2 h3 h4).ls h1 h2 h4)
/-- what holds while a suit is told -/
def TT (h0 h : Hp) (tb oa na ma ua su n F nl : Nat) (t : List Nat) (R : List (Nat × Nat)) (v : Vt) (c s : Nat) : Prop := TQ h oa na ma ua su n F nl ∧ SB h tb t ∧ (nl ≤ t.length ∧ t.length ≤ 472) ∧ TpF t R ∧ LZ nl R v00 v ∧ Gw h0 h PL c s
/-- a line more that fits -/
theorem TT.line {R Rk : List (Nat × Nat)} {v v' : Vt} {tb : Nat} (T : TT h0 h tb oa na ma ua su n F nl t R v c s) (e : GK l h h1 c' s') (hl : 17 ∉ l ∧ 53 ∉ l) (q : TQ h1 oa na ma ua su n' F nl) (hs : ST h1 z u) (hu : u.length ≤ 600) (htp : Tp u Rk) (hY : LY (Rk ++ [(59, 0)]) v v') (hn : n' + 2 < 1000000000) :
    (470 < t.length + u.length ∧ mL_fits 99 tb z h1 = some (0, h1) ∧ TT h0 h1 tb oa na ma ua su n' F nl t R v (c + c') (s + s')) ∨
    (∃ h2 n2 t2 R2, mL_fits 99 tb z h1 = some (1, h2) ∧ n2 ≤ n' + 2 ∧ t2.length ≤ t.length + u.length + 2 ∧ TT h0 h2 tb oa na ma ua su n2 F (nl + 1) t2 R2 v' (c + c' + 3) (s + s' + 3000) ∧ GK [16, 17, 53] h1 h2 3 3000) := by
  obtain ⟨q0, sb, t472, tp, hz, G⟩ := T
  have sb1 := e.sb sb hl.1 hl.2
  have G1 := G.tr e.pl (fun _ _ z => z)
  rcases fits_ok q sb1 t472.2 hs hu hn (by omega) with ⟨k, e2⟩ | ⟨k, h2, n2, j, e2, q2, hn2, sb2, g2⟩
  · exact Or.inl ⟨k, e2, q, sb1, t472, tp, hz, G1⟩
  · have gt := gap_tp j
    have tf := (htp.appF (TpF.mk (c := 59) (by decide)) (by decide) (by decide)).app gt.1
    rw [List.append_nil] at tf
    refine Or.inr ⟨h2, n2, _, _, e2, hn2, ?_, ⟨q2, sb2, ?_, tp.app tf, hz.snoc hY, G1.tr g2.pl (fun _ _ z => z)⟩, g2⟩
    · simp only [List.length_append, List.length_singleton]; omega
    · simp only [List.length_append, List.length_singleton]; omega
end J5
