/-! BUILDERS ARE WRITTEN -/
section F2
variable {h h' h1 h2 h3 : Hp} {P P' : Nat → Prop} {c c' s s' a b kd n x y cap : Nat} {t u : List Nat}
theorem stB_ok {a n i : Nat} {v : Int32} {h : Hp} (hs : hpS h a = (53, n)) (hi : i < n) (h31 : n < 2 ^ 31) (hv : okB v = true) : stB a (nI i) v h = some (setI h a (updA (hpI h a) i v)) := by
  unfold stB; rw [hs, inB_nI (by omega), ixN_nI (by omega), if_pos ⟨⟨rfl, by simpa using hi⟩, hv⟩, upI_set]
theorem sB_ok {c k a : Nat} {x : Int32} {h : Hp} (hs : (hpS h a).1 = c + 1) (hx : okB x = true) : sB c k a x h = some (setI h a (updA (hpI h a) k x)) := by rw [sB, if_pos ⟨hs, hx⟩, upI_set]
/-- bytes of a String go into a row -/
theorem cpS_ok {v m p : Nat} (hs : ST h s u) (hv : hpS h v = (53, m)) (hp : p + u.length ≤ m) (hm : m < 100000) : ∃ b, sV s h = some b ∧ bLn b h = some (nI u.length) ∧ cpB b (0 : Int32) v (nI p) (nI u.length) h = some (cpH b (0 : Int32) v (nI p) (nI u.length) h) ∧
    ∀ j, hpI (cpH b (0 : Int32) v (nI p) (nI u.length) h) v j = if p ≤ j ∧ j < p + u.length then nI (u.getD (j - p) 0) else hpI h v j := by
  obtain ⟨b, e1, e2, e3, e4, e5, e6, _⟩ := hs.by
  have i0 : ixN (0 : Int32) = 0 := rfl
  have ip : ixN (nI p) = p := ixN_nI (by omega)
  have il : ixN (nI u.length) = u.length := ixN_nI (by omega)
  refine ⟨b, e1, bLn_ok e3 e4, ?_, fun j => ?_⟩
  · unfold cpB
    rw [if_pos]
    unfold cpC
    rw [e3, hv, e4, i0, ip, il]
    simp only [Bool.and_eq_true, decide_eq_true_eq, List.all_eq_true, List.mem_range, Bool.true_and]
    refine ⟨⟨⟨trivial, ⟨by decide, nI_pos (by omega), nI_pos (by omega)⟩⟩, by omega, by omega⟩, fun i hi => ?_⟩
    rw [Nat.zero_add, e5 i hi]
    exact (by128 _ (hs.1 i hi)).2.1
  · rw [cp_Id]
    unfold va_cpy
    rw [i0, ip, il]
    by_cases q : p ≤ j ∧ j < p + u.length
    · rw [if_pos q, if_pos q, Nat.zero_add, e5 _ (by omega)]
    · rw [if_neg q, if_neg q]
/-- a row is written behind what is there, and the count moved -/
theorem SBc.put (hx : SBc h x t cap) (hu : ∀ j, j < u.length → u.getD j 0 < 128) (hl : t.length + u.length ≤ cap)
    (nN : hpN h' = hpN h) (nS : ∀ a, hpS h' a = hpS h a) (nR : ∀ a, hpR h' a = hpR h a) (n1 : hpI h' x 1 = 0) (n3 : hpI h' x 3 = nI (t.length + u.length))
    (nI' : ∀ j, hpI h' (hpR h x 0) j = if t.length ≤ j ∧ j < t.length + u.length then nI (u.getD (j - t.length) 0) else hpI h (hpR h x 0) j) : SBc h' x (t ++ u) cap := by
  obtain ⟨⟨a1, a2, a3, a4, a5⟩, ⟨b1, b2', b3, b4⟩, c1, d1, f1⟩ := hx
  have r : hpR h' x 0 = hpR h x 0 := by rw [nR]
  unfold SBc
  rw [r, List.length_append]
  refine ⟨⟨a1, by omega, by rw [nS]; exact a3, n1, n3⟩, ⟨b1, by omega, by rw [nS]; exact b3, hl⟩, fun j hj => ?_, fun j hj => ?_, fun a ha hk hne => ?_⟩
  · rw [nI']
    by_cases q : t.length ≤ j ∧ j < t.length + u.length
    · rw [if_pos q]; exact ⟨_, hu _ (by omega), rfl⟩
    · rw [if_neg q]; exact c1 j hj
  · rw [nI', getD_app]
    by_cases q : j < t.length
    · rw [if_pos q, if_neg (by omega)]; exact d1 j q
    · rw [if_neg q, if_pos (by omega)]; exact ⟨hu _ (by omega), rfl⟩
  · rw [nR]
    exact f1 a (by omega) (by unfold txk at hk ⊢; rw [nS] at hk; exact hk) hne
theorem SBc.ne (hx : SBc h x t cap) : x ≠ hpR h x 0 := fun e => by
  obtain ⟨⟨a1, a2, a3, a4, a5⟩, ⟨b1, b2', b3, b4⟩, _⟩ := hx
  rw [← e, a3] at b3
  cases b3
theorem appc_ok (hC : CLO h) (hx : SBc h x t cap) (hs : ST h s u) (hl : t.length + u.length ≤ 3000) (hc : cap ≤ 20000) :
    ∃ h' cap', mJ4_append_15ec4 x s h = some (x, h') ∧ SBc h' x (t ++ u) cap' ∧ (cap' = cap ∨ cap' ≤ 2 * (t.length + u.length) + 2) ∧ Gw h h' (own h x) 1 (2 * (t.length + u.length) + 2) := by
  obtain ⟨h1, cap1, e1, x1, n1, cc1, ex1, ow1⟩ := ens_ok (n := t.length + u.length) hC hx hl hc
  have s1 : ST h1 s u := hx.keepS hs ex1
  have kx := hx.kx
  have k1 := x1.kx
  have len := hs.len
  have cod := s1.cod
  obtain ⟨b, f1, f2, f3, f4⟩ := cpS_ok (v := hpR h1 x 0) (p := t.length) s1 x1.2.1.2.2.1 (m := cap1) (by omega) (by omega)
  obtain ⟨_, _, _, _, _, _, e6, _⟩ := s1.by
  have s0 : s ≠ 0 := by
    obtain ⟨_, ⟨q, _⟩ | ⟨q, _⟩⟩ := hs
    · omega
    · omega
  have inf : mJ5_inflateIfNeededFor_a7421 x s h1 = some () := by
    unfold mJ5_inflateIfNeededFor_a7421
    rw [if_pos k1, if_neg (by decide), gI_ok k1, obind, x1.1.2.2.2.1, cod, obind, if_pos rfl]
  obtain ⟨h2, hh2⟩ : ∃ h2, h2 = cpH b (0 : Int32) (hpR h1 x 0) (nI t.length) (nI u.length) h1 := ⟨_, rfl⟩
  rw [← hh2] at f3 f4
  have gb : mJ0_getBytes_840e7 s (hpR h1 x 0) (nI t.length) 0 h1 = some h2 := by
    unfold mJ0_getBytes_840e7
    rw [if_pos e6, cod, obind, if_pos rfl, f1, obind, obind, f2, obind, sh0l, f3, obind]
  have ps : mJ5_putStringAt_47b60 x (nI t.length) s h1 = some h2 := by
    unfold mJ5_putStringAt_47b60
    rw [if_pos k1, inf, obind, gR_ok k1, obind, gI_ok k1, obind, x1.1.2.2.2.1, gb, obind]
  have ne1 := x1.ne
  have i2 : hpI h2 x = hpI h1 x := by rw [hh2, cp_I ne1]
  have k2 : (hpS h2 x).1 = 16 + 1 := by rw [hh2, cp_S]; exact k1
  refine ⟨setI h2 x (updA (hpI h2 x) 3 (nI (t.length + u.length))), cap1, ?_, ?_, cc1, ?_⟩
  · unfold mJ4_append_15ec4 mJ5_append_cf1ce
    rw [if_pos kx, if_pos kx, if_pos s0, len, obind, gI_ok kx, obind, hx.1.2.2.2.2, nI_add, e1, obind, gI_ok k1, obind, x1.1.2.2.2.2, ps, obind, gI_ok k2, obind, i2, x1.1.2.2.2.2, nI_add, sI_ok k2, obind, i2, b2s]
  · refine x1.put s1.1 n1 (by rw [setI_N, hh2, cp_N]) (fun a => by rw [setI_S, hh2, cp_S]) (fun a => by rw [hh2]; rfl) ?_ ?_ (fun j => ?_)
    · rw [setI_I, if_pos rfl, updA_ne _ _ (by omega), i2]; exact x1.1.2.2.2.1
    · rw [setI_I, if_pos rfl, updA_same]
    · rw [setI_I, if_neg (Ne.symm ne1)]; exact f4 j
  · have e2 : Gw h h2 (own h x) 1 (2 * (t.length + u.length) + 2) := by rw [hh2]; exact ex1.cp ow1
    exact e2.sI (fun _ => Or.inl rfl)
/-- a String more -/
theorem app_ok (hC : CLO h) (hx : SB h x t) (hs : ST h s u) (hl : t.length + u.length ≤ 3000) :
    ∃ h', mJ4_append_15ec4 x s h = some (x, h') ∧ SB h' x (t ++ u) ∧ Gw h h' (own h x) 1 (2 * (t.length + u.length) + 2) := by
  obtain ⟨cap, hx, hc⟩ := hx
  obtain ⟨h', cap', e, x', c1, ex⟩ := appc_ok hC hx hs hl (by omega)
  exact ⟨h', e, ⟨cap', x', by rw [List.length_append]; omega⟩, ex⟩
/-- a char more -/
theorem appch_ok (hC : CLO h) (hx : SB h x t) {d : Nat} (hd : d < 128) (hl : t.length + 1 ≤ 3000) :
    ∃ h', mJ4_append_cf468 x (nI d) h = some (x, h') ∧ SB h' x (t ++ [d]) ∧ Gw h h' (own h x) 1 (2 * (t.length + 1) + 2) := by
  obtain ⟨cap, hx, hc⟩ := hx
  obtain ⟨h1, cap1, e1, x1, n1, cc1, ex1, ow1⟩ := ens_ok (n := t.length + 1) hC hx hl (by omega)
  have kx := hx.kx
  have k1 := x1.kx
  obtain ⟨d1, d2, d3, d4, d5, d6, d7⟩ := by128 d hd
  have il : mJ5_isLatin1_aae02 x h1 = some 1 := by
    unfold mJ5_isLatin1_aae02
    rw [if_pos k1, if_neg (by decide), gI_ok k1, obind, x1.1.2.2.2.1, if_pos rfl]
  have ne1 := x1.ne
  obtain ⟨h2, hh2⟩ : ∃ h2, h2 = setI h1 x (updA (hpI h1 x) 3 (nI (t.length + 1))) := ⟨_, rfl⟩
  have s2 : hpS h2 (hpR h1 x 0) = (53, cap1) := by rw [hh2, setI_S]; exact x1.2.1.2.2.1
  have i2 : hpI h2 (hpR h1 x 0) = hpI h1 (hpR h1 x 0) := by rw [hh2, setI_I, if_neg (Ne.symm ne1)]
  refine ⟨setI h2 (hpR h1 x 0) (updA (hpI h2 (hpR h1 x 0)) t.length (nI d)), ?_, ⟨cap1, ?_, by rw [List.length_append]; simp only [List.length_cons, List.length_nil]; omega⟩, ?_⟩
  · unfold mJ4_append_cf468 mJ5_append_3fe6f
    rw [if_pos kx, if_pos kx, gI_ok kx, obind, hx.1.2.2.2.2, nI_1, e1, obind, il, obind, if_neg (by decide), d7, obind, if_neg (by decide), gR_ok k1, obind, gI_ok k1, obind, x1.1.2.2.2.2, nI_1, sI_ok k1, obind, ← hh2, d6, stB_ok s2 (by omega) (by omega) d1, obind, b2s]
  · refine x1.put (u := [d]) (fun j hj => ?_) n1 (by rw [setI_N, hh2, setI_N]) (fun a => by rw [setI_S, hh2, setI_S]) (fun a => by rw [hh2]; rfl) ?_ ?_ (fun j => ?_)
    · have : j = 0 := by simpa using hj
      subst this; exact hd
    · rw [setI_I, if_neg ne1, hh2, setI_I, if_pos rfl, updA_ne _ _ (by omega)]; exact x1.1.2.2.2.1
    · rw [setI_I, if_neg ne1, hh2, setI_I, if_pos rfl, updA_same]; rfl
    · rw [setI_I, if_pos rfl, updA_at, i2]
      by_cases q : j = t.length
      · rw [if_pos q, if_pos (by simp only [List.length_cons, List.length_nil]; omega), q, Nat.sub_self]; rfl
      · rw [if_neg q, if_neg (by simp only [List.length_cons, List.length_nil]; omega)]
  · have e2 : Gw h h2 (own h x) 1 (2 * (t.length + 1) + 2) := by rw [hh2]; exact ex1.sI (fun _ => Or.inl rfl)
    exact e2.sI ow1
/-- a number's digits -/
def dcm (v : Nat) : List Nat := if v < 10 then [48 + v] else if v < 100 then [48 + v / 10, 48 + v % 10] else [48 + v / 100, 48 + v / 10 % 10, 48 + v % 10]
theorem dig_facts : ∀ v, v < 1000 → ¬ nI v < 0 ∧ ¬ -(nI v) < (-(2147483647 : Int32)) ∧ (-(-(nI v)) = nI v) ∧ -(nI v) / (100 : Int32) = -(nI (v / 100)) ∧ (-(nI v) / (100 : Int32)) * (100 : Int32) - -(nI v) = nI (v % 100) ∧ (decide ((-100 : Int32) < -(nI v)) = decide (v < 100)) ∧ (decide (-(nI v) < (-9 : Int32)) = decide (10 ≤ v)) ∧
    (decide ((-10 : Int32) < -(nI v)) = decide (v < 10)) ∧ (decide ((10 : Int32) * (-10 : Int32) < -(nI v)) = decide (v < 100)) ∧ (decide ((10 : Int32) * ((10 : Int32) * (-10 : Int32)) < -(nI v)) = true) := by decide +kernel
theorem dig_len (v : Nat) : (dcm v).length = if v < 10 then 1 else if v < 100 then 2 else 3 := by
  unfold dcm
  split
  · rfl
  · split <;> rfl
theorem size_ok' {v : Nat} (hv : v < 1000) : mJ6_stringSize_0f7a4 (nI v) = some (nI (dcm v).length) := by
  obtain ⟨f0, _, f1, _, _, _, _, f10, f100, f1000⟩ := dig_facts v hv
  have p1 : ∀ {x2 x3 : Int32}, x3 < 10 → x2 < -(nI v) → mJ6_stringSize_0f7a4_l16 (-(nI v)) 0 x2 x3 = some (x3 + 0) := fun {x2 x3} a b => by
    unfold mJ6_stringSize_0f7a4_l16
    refine lp_inr ?_
    show mJ6_stringSize_0f7a4_l16f (-(nI v)) 0 x2 x3 = _
    unfold mJ6_stringSize_0f7a4_l16f
    rw [if_pos a, if_pos b, xts]
  have p2 : ∀ {x2 x3 : Int32}, x3 < 10 → ¬ x2 < -(nI v) → mJ6_stringSize_0f7a4_l16 (-(nI v)) 0 x2 x3 = mJ6_stringSize_0f7a4_l16 (-(nI v)) 0 (10 * x2) (x3 + 1) := fun {x2 x3} a b => by
    unfold mJ6_stringSize_0f7a4_l16
    refine lp_inl ?_
    show mJ6_stringSize_0f7a4_l16f (-(nI v)) 0 x2 x3 = _
    unfold mJ6_stringSize_0f7a4_l16f
    rw [if_pos a, if_neg b]
  unfold mJ6_stringSize_0f7a4 mJ6_stringSize_0f7a4_b11
  rw [if_neg f0, dig_len]
  by_cases q : v < 10
  · rw [if_pos q, p1 (by decide) (of_decide_eq_true (f10.trans (decide_eq_true q)))]; rfl
  · rw [if_neg q, p2 (by decide) (of_decide_eq_false (f10.trans (decide_eq_false q)))]
    by_cases r : v < 100
    · rw [if_pos r, p1 (by decide) (of_decide_eq_true (f100.trans (decide_eq_true r)))]; rfl
    · rw [if_neg r, p2 (by decide) (of_decide_eq_false (f100.trans (decide_eq_false r))), p1 (by decide) (of_decide_eq_true f1000)]; rfl
theorem bLd6 {r : Nat} (hr : r < 100) : bLd 6 (nI r) h = some (nI (48 + r % 10)) ∧ bLd 5 (nI r) h = some (nI (48 + r / 10)) := by
  constructor
  · unfold bLd
    rw [if_pos ⟨by unfold bOk; simp, by rw [show bN 6 h = 100 from rfl, inB_nI (by omega)]; exact decide_eq_true hr⟩, ixN_nI (by omega)]; rfl
  · unfold bLd
    rw [if_pos ⟨by unfold bOk; simp, by rw [show bN 5 h = 100 from rfl, inB_nI (by omega)]; exact decide_eq_true hr⟩, ixN_nI (by omega)]; rfl
theorem nI_mn1 {i : Nat} (hi : 1 ≤ i) : nI i + (-1 : Int32) = nI (i - 1) := by rw [← nI_sub hi, Int32.sub_eq_add_neg]; rfl
theorem getChars_ok {v w p m : Nat} (hv : v < 1000) (hw : hpS h w = (53, m)) (hp : p + (dcm v).length ≤ m) (hm : m < 100000) :
    ∃ r, mJ6_getChars_ba4f3 (nI v) (nI (p + (dcm v).length)) w h = some (nI p, setI h w r) ∧ ∀ j, r j = if p ≤ j ∧ j < p + (dcm v).length then nI ((dcm v).getD (j - p) 0) else hpI h w j := by
  obtain ⟨f0, _, f1, f2, f3, f4, f5, _⟩ := dig_facts v hv
  have st : ∀ (r : Nat → Int32) (i d : Nat), i < m → d < 10 → stB w (nI i) (nI (48 + d)) (setI h w r) = some (setI h w (updA r i (nI (48 + d)))) := fun r i d hi hd => by
    rw [stB_ok (n := m) (by rw [setI_S]; exact hw) hi (by omega) (by128 _ (by omega)).1, setI_I, if_pos rfl, setI_two]
  have hi0 : h = setI h w (hpI h w) := (setI_id h w).symm
  have one : ∀ (r : Nat → Int32) (i q : Nat), q < 100 → 1 ≤ i → i ≤ m → (q ≥ 10 → 2 ≤ i) → mJ6_getChars_ba4f3_l22 (-(nI q)) w (nI i) 0 (setI h w r) = some (if 10 ≤ q then nI (i - 2) else nI (i - 1), setI h w (if 10 ≤ q then updA (updA r (i - 1) (nI (48 + q % 10))) (i - 2) (nI (48 + q / 10)) else updA r (i - 1) (nI (48 + q % 10)))) := fun r i q hq h1 h2 h3 => by
    obtain ⟨_, _, g1, _, _, g4, g5, _⟩ := dig_facts q (by omega)
    unfold mJ6_getChars_ba4f3_l22
    refine lp_inr ?_
    show mJ6_getChars_ba4f3_l22f w 0 (-(nI q)) (nI i) (setI h w r) = _
    unfold mJ6_getChars_ba4f3_l22f mJ6_getChars_ba4f3_b104
    rw [if_pos (of_decide_eq_true (g4.trans (decide_eq_true hq))), g1, (bLd6 hq).1, obind, nI_mn1 h1, st _ _ _ (by omega) (by omega), obind]
    by_cases c : 10 ≤ q
    · rw [if_pos (of_decide_eq_true (g5.trans (decide_eq_true c))), (bLd6 hq).2, obind, nI_mn1 (by omega), st _ _ _ (by omega) (by omega), obind, if_pos rfl, xts, if_pos c, if_pos c, Nat.sub_sub]
    · rw [if_neg (of_decide_eq_false (g5.trans (decide_eq_false c))), if_pos rfl, xts, if_neg c, if_neg c]
  unfold mJ6_getChars_ba4f3 mJ6_getChars_ba4f3_b12
  rw [if_neg f0, if_pos rfl, dig_len]
  rw [dig_len] at hp
  by_cases q : v < 10
  · rw [if_pos q] at hp ⊢
    refine ⟨updA (hpI h w) p (nI (48 + v)), ?_, fun j => ?_⟩
    · have := one (hpI h w) (p + 1) v (by omega) (by omega) (by omega) (by omega)
      rw [setI_id, if_neg (by omega), if_neg (by omega), Nat.add_sub_cancel, Nat.mod_eq_of_lt (by omega)] at this
      exact this
    · rw [updA_at]
      by_cases e : j = p
      · rw [if_pos e, if_pos (by omega), e, Nat.sub_self]; unfold dcm; rw [if_pos q]; rfl
      · rw [if_neg e, if_neg (by omega)]
  · rw [if_neg q] at hp ⊢
    by_cases r : v < 100
    · rw [if_pos r] at hp ⊢
      refine ⟨updA (updA (hpI h w) (p + 1) (nI (48 + v % 10))) p (nI (48 + v / 10)), ?_, fun j => ?_⟩
      · have := one (hpI h w) (p + 2) v (by omega) (by omega) (by omega) (by omega)
        rw [setI_id, if_pos (by omega), if_pos (by omega), Nat.add_sub_cancel, show p + 2 - 1 = p + 1 by omega] at this
        exact this
      · rw [updA_at, updA_at]
        by_cases e : j = p
        · rw [if_pos e, if_pos (by omega), e, Nat.sub_self]; unfold dcm; rw [if_neg q, if_pos r]; rfl
        · rw [if_neg e]
          by_cases e2 : j = p + 1
          · rw [if_pos e2, if_pos (by omega), e2, show p + 1 - p = 1 by omega]; unfold dcm; rw [if_neg q, if_pos r]; rfl
          · rw [if_neg e2, if_neg (by omega)]
    · rw [if_neg r] at hp ⊢
      have hw' : hpS h w = (53, m) := hw
      have v3 : v / 100 < 10 := by omega
      refine ⟨updA (updA (updA (hpI h w) (p + 2) (nI (48 + v % 10))) (p + 1) (nI (48 + v / 10 % 10))) p (nI (48 + v / 100)), ?_, fun j => ?_⟩
      · have stp : mJ6_getChars_ba4f3_l22 (-(nI v)) w (nI (p + 3)) 0 h = mJ6_getChars_ba4f3_l22 (-(nI (v / 100))) w (nI (p + 1)) 0 (setI h w (updA (updA (hpI h w) (p + 2) (nI (48 + v % 10))) (p + 1) (nI (48 + v / 10 % 10)))) := by
          unfold mJ6_getChars_ba4f3_l22
          refine lp_inl ?_
          show mJ6_getChars_ba4f3_l22f w 0 (-(nI v)) (nI (p + 3)) h = _
          unfold mJ6_getChars_ba4f3_l22f
          have b6 := bLd6 (h := h) (r := v % 100) (by omega)
          rw [if_neg (of_decide_eq_false (f4.trans (decide_eq_false r))), nz100, f3, b6.1, obind, nI_mn1 (by omega), show p + 3 - 1 = p + 2 by omega]
          have s1 := st (hpI h w) (p + 2) (v % 100 % 10) (by omega) (by omega)
          rw [setI_id] at s1
          rw [s1, obind]
          have b5 := (bLd6 (h := setI h w (updA (hpI h w) (p + 2) (nI (48 + v % 100 % 10)))) (r := v % 100) (by omega)).2
          rw [b5, obind, nI_mn1 (by omega), show p + 2 - 1 = p + 1 by omega, st _ (p + 1) (v % 100 / 10) (by omega) (by omega), obind, f2, show v % 100 % 10 = v % 10 by omega, show v % 100 / 10 = v / 10 % 10 by omega]
        rw [stp]
        have := one (updA (updA (hpI h w) (p + 2) (nI (48 + v % 10))) (p + 1) (nI (48 + v / 10 % 10))) (p + 1) (v / 100) (by omega) (by omega) (by omega) (by omega)
        rw [if_neg (by omega), if_neg (by omega), Nat.add_sub_cancel, Nat.mod_eq_of_lt v3] at this
        exact this
      · rw [updA_at, updA_at, updA_at]
        by_cases e : j = p
        · rw [if_pos e, if_pos (by omega), e, Nat.sub_self]; unfold dcm; rw [if_neg q, if_neg r]; rfl
        · rw [if_neg e]
          by_cases e2 : j = p + 1
          · rw [if_pos e2, if_pos (by omega), e2, show p + 1 - p = 1 by omega]; unfold dcm; rw [if_neg q, if_neg r]; rfl
          · rw [if_neg e2]
            by_cases e3 : j = p + 2
            · rw [if_pos e3, if_pos (by omega), e3, show p + 2 - p = 2 by omega]; unfold dcm; rw [if_neg q, if_neg r]; rfl
            · rw [if_neg e3, if_neg (by omega)]
theorem dig_lt {v : Nat} (hv : v < 1000) : ∀ j, j < (dcm v).length → 48 ≤ (dcm v).getD j 0 ∧ (dcm v).getD j 0 < 58 := by
  intro j hj
  rw [dig_len] at hj
  unfold dcm
  by_cases q : v < 10
  · rw [if_pos q] at hj ⊢
    obtain rfl : j = 0 := by omega
    show 48 ≤ 48 + v ∧ 48 + v < 58
    omega
  · rw [if_neg q] at hj ⊢
    by_cases r : v < 100
    · rw [if_pos r] at hj ⊢
      rcases (show j = 0 ∨ j = 1 by omega) with rfl | rfl
      · show 48 ≤ 48 + v / 10 ∧ 48 + v / 10 < 58
        omega
      · show 48 ≤ 48 + v % 10 ∧ 48 + v % 10 < 58
        omega
    · rw [if_neg r] at hj ⊢
      rcases (show j = 0 ∨ j = 1 ∨ j = 2 by omega) with rfl | rfl | rfl
      · show 48 ≤ 48 + v / 100 ∧ 48 + v / 100 < 58
        omega
      · show 48 ≤ 48 + v / 10 % 10 ∧ 48 + v / 10 % 10 < 58
        omega
      · show 48 ≤ 48 + v % 10 ∧ 48 + v % 10 < 58
        omega
/-- a number more -/
theorem appi_ok (hC : CLO h) (hx : SB h x t) {v : Nat} (hv : v < 1000) (hl : t.length + 3 ≤ 3000) :
    ∃ h', mJ4_append_bf812 x (nI v) h = some (x, h') ∧ SB h' x (t ++ dcm v) ∧ Gw h h' (own h x) 1 (2 * (t.length + 3) + 2) := by
  obtain ⟨cap, hx, hc⟩ := hx
  have dl : (dcm v).length ≤ 3 := by
    rw [dig_len]
    repeat' split
    all_goals omega
  obtain ⟨h1, cap1, e1, x1, n1, cc1, ex1, ow1⟩ := ens_ok (n := t.length + (dcm v).length) hC hx (by omega) (by omega)
  have kx := hx.kx
  have k1 := x1.kx
  have il : mJ5_isLatin1_aae02 x h1 = some 1 := by
    unfold mJ5_isLatin1_aae02
    rw [if_pos k1, if_neg (by decide), gI_ok k1, obind, x1.1.2.2.2.1, if_pos rfl]
  have ne1 := x1.ne
  obtain ⟨r, g1, g2⟩ := getChars_ok (h := h1) (w := hpR h1 x 0) (p := t.length) (m := cap1) hv x1.2.1.2.2.1 n1 (by omega)
  have k2 : (hpS (setI h1 (hpR h1 x 0) r) x).1 = 16 + 1 := k1
  have i2 : hpI (setI h1 (hpR h1 x 0) r) x = hpI h1 x := by rw [setI_I, if_neg ne1]
  refine ⟨setI (setI h1 (hpR h1 x 0) r) x (updA (hpI h1 x) 3 (nI (t.length + (dcm v).length))), ?_, ⟨cap1, ?_, by rw [List.length_append]; omega⟩, ?_⟩
  · unfold mJ4_append_bf812 mJ5_append_c97b9
    rw [if_pos kx, if_pos kx, gI_ok kx, obind, hx.1.2.2.2.2, size_ok' hv, obind, nI_add, e1, obind, il, obind, if_neg (by decide), gR_ok k1, obind, g1, b2s, sI_ok k2, obind, i2, b2s]
  · refine x1.put (u := dcm v) (fun j hj => by have := dig_lt hv j hj; omega) n1 rfl (fun a => rfl) (fun a => rfl) ?_ ?_ (fun j => ?_)
    · rw [setI_I, if_pos rfl, updA_ne _ _ (by omega)]; exact x1.1.2.2.2.1
    · rw [setI_I, if_pos rfl, updA_same]
    · rw [setI_I, if_neg (Ne.symm ne1), setI_I, if_pos rfl]; exact g2 j
  · exact ((ex1.sI ow1).sI (fun _ => Or.inl rfl)).up (fun _ _ z => z) (Nat.le_refl _) (by omega)
end F2
