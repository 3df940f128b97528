section Become
variable {σ : Sg} {I I' J I1 I2 : Nat → Nat → Int32} {L L' L1 L2 : Nat → Nat → Int64}
theorem bs_on (p : Nat → Bool) {f : Nat} (hf : f < 8) (b : Bool) : (if b = true then bs p 8 ||| 2 ^ f else bs p 8 ^^^ (bs p 8 &&& 2 ^ f)) = bs (updA p f b) 8 := by
  apply Nat.eq_of_testBit_eq; intro j
  rw [bs_bit, updA_at]
  cases b
  · rw [if_neg (by decide), Nat.testBit_xor, Nat.testBit_and, bs_bit, Nat.testBit_two_pow]
    by_cases e : j = f
    · subst e; rw [decide_eq_true rfl, if_pos rfl, decide_eq_true hf]; cases p j <;> rfl
    · rw [decide_eq_false (show ¬ f = j from fun q => e q.symm), if_neg e]; cases (decide (j < 8) && p j) <;> rfl
  · rw [if_pos rfl, tb_or1, bs_bit]
    by_cases e : j = f
    · subst e; rw [decide_eq_true rfl, if_pos rfl, decide_eq_true hf, Bool.or_true]; rfl
    · rw [decide_eq_false e, if_neg e, Bool.or_false]
theorem setb {ρ : Type} {p : Nat → Bool} {f how c : Nat} (K : Int32 → Option ρ) (hf : f < 8) (hc : c < 100) (hh : how < 100) :
    (if nI how = nI c then (some (nI (bs p 8))).bind (fun v => K (v ||| nI (2 ^ f))) else (some (nI (bs p 8))).bind (fun v => K (v &&& (nI (2 ^ f) ^^^ (-1 : Int32))))) = K (nI (bs (updA p f (decide (how = c))) 8)) := by
  have hb := bs_lt p 8
  have o := bs_on p hf (decide (how = c))
  rw [c_eqd (by omega) (by omega), obind, obind, nx_or, nx_not (by omega)]
  by_cases e : how = c
  · rw [if_pos e]
    rw [decide_eq_true e, if_pos rfl] at o
    rw [o, decide_eq_true e]
  · rw [if_neg e]
    rw [decide_eq_false e, if_neg (by decide)] at o
    rw [o, decide_eq_false e]
theorem gG {s : Nat} {r : Nat → Int32} (k : Nat) (hs : isSt s) : gI 5 k s (hk σ (rowUp I s r) L) = some (r k) := by rw [gI_st hs, rowUp_same]
theorem mkn_hi {N : Nat → Nat} {f how so i : Nat} (hf : f < 8) (hi : 16 ≤ i) : mkn N f how so i = N i := by
  unfold mkn; rw [updA_ne _ _ (by omega), updA_ne _ _ (by omega)]
theorem mkn_it {N : Nat → Nat} {f how so k j : Nat} (hf : f < 8) : it (mkn N f how so) k j = it N k j := by
  unfold it; rw [mkn_hi hf (by omega)]
theorem mkn_lo {N : Nat → Nat} {f how so g : Nat} (hf : f < 8) (hg : g < 8) : mkn N f how so g = if g = f then how else N g := by
  unfold mkn; rw [updA_ne _ _ (by omega), updA_at]
theorem mkn_is {N : Nat → Nat} {f how so g : Nat} (hf : f < 8) (hg : g < 8) : mkn N f how so (8 + g) = if g = f then so else N (8 + g) := by
  unfold mkn; rw [updA_at]
  by_cases e : g = f
  · subst e; rw [if_pos rfl, if_pos rfl]
  · rw [if_neg (by omega), if_neg e, updA_ne _ _ (by omega)]
theorem mkn_kn {N : Nat → Nat} {f how so g : Nat} (hf : f < 8) (hg : g < 8) : kn (mkn N f how so) g = if g = f then (decide (how = 1) || decide (how = 4)) else kn N g := by
  unfold kn; rw [mkn_lo hf hg]; split <;> rfl
/-- become -/
theorem become_ok {s f how : Nat} {N : Nat → Nat} (is : Bool) (hs : isSt s) (h : CSt I s N) (hf : f < 8) (hh : how ≤ 4) :
    ∃ I', mX5_become s (nI f) (nI how) (bI is) (hk σ I L) = some (hk σ I' L) ∧ CSt I' s (mkn N f how (if (is && (decide (how = 1) || decide (how = 4))) = true then 1 else 0)) ∧ ∀ x, x ≠ s → I' x = I x := by
  obtain ⟨⟨a0, a1, a2, a3, a4, a5, a6, a7, a8⟩, hb⟩ := id h
  obtain ⟨so, hso⟩ : ∃ so, so = (is && (decide (how = 1) || decide (how = 4))) := ⟨_, rfl⟩
  rw [← hso]
  obtain ⟨v4, e4⟩ : ∃ v, v = nI (bs (updA (fun f => decide (N f = 1)) f (decide (how = 1))) 8) := ⟨_, rfl⟩
  obtain ⟨v5, e5⟩ : ∃ v, v = nI (bs (updA (fun f => decide (N f = 2)) f (decide (how = 2))) 8) := ⟨_, rfl⟩
  obtain ⟨v6, e6⟩ : ∃ v, v = nI (bs (updA (fun f => decide (N f = 3)) f (decide (how = 3))) 8) := ⟨_, rfl⟩
  obtain ⟨v7, e7⟩ : ∃ v, v = nI (bs (updA (fun f => decide (N f = 4)) f (decide (how = 4))) 8) := ⟨_, rfl⟩
  obtain ⟨v8, e8⟩ : ∃ v, v = nI (bs (updA (fun f => kn N f && decide (N (8 + f) = 1)) f so) 8) := ⟨_, rfl⟩
  refine ⟨rowUp I s (updA (updA (updA (updA (updA (I s) 4 v4) 5 v5) 6 v6) 7 v7) 8 v8), ?_, ?_, fun x hx => rowUp_ne _ _ hx⟩
  · unfold mX5_become
    rw [if_pos (sSt hs), shl1 (by omega)]
    conv => lhs; rw [show hk σ I L = hk σ (rowUp I s (I s)) L by rw [rowUp_id]]
    rw [gG 4 hs, a4]
    refine (setb (c := 1) (fun t => mX5_become_b30 s (nI how) (bI is) (nI (2 ^ f)) s t (hk σ (rowUp I s (I s)) L)) hf (by omega) (by omega)).trans ?_
    rw [← e4]
    show mX5_become_b30 s (nI how) (bI is) (nI (2 ^ f)) s v4 (hk σ (rowUp I s (I s)) L) = _
    unfold mX5_become_b30
    rw [cpS 4 _ hs, obind, gG 5 hs, updA_ne _ _ (by omega), a5]
    refine (setb (c := 2) (fun t => mX5_become_b58 s (nI how) (bI is) (nI (2 ^ f)) s t (hk σ (rowUp I s (updA (I s) 4 v4)) L)) hf (by omega) (by omega)).trans ?_
    rw [← e5]
    show mX5_become_b58 s (nI how) (bI is) (nI (2 ^ f)) s v5 (hk σ (rowUp I s (updA (I s) 4 v4)) L) = _
    unfold mX5_become_b58
    rw [cpS 5 _ hs, obind, gG 6 hs, updA_ne _ _ (by omega), updA_ne _ _ (by omega), a6]
    refine (setb (c := 3) (fun t => mX5_become_b86 s (nI how) (bI is) (nI (2 ^ f)) s t (hk σ (rowUp I s (updA (updA (I s) 4 v4) 5 v5)) L)) hf (by omega) (by omega)).trans ?_
    rw [← e6]
    show mX5_become_b86 s (nI how) (bI is) (nI (2 ^ f)) s v6 (hk σ (rowUp I s (updA (updA (I s) 4 v4) 5 v5)) L) = _
    unfold mX5_become_b86
    rw [cpS 6 _ hs, obind, gG 7 hs, updA_ne _ _ (by omega), updA_ne _ _ (by omega), updA_ne _ _ (by omega), a7]
    refine (setb (c := 4) (fun t => mX5_become_b114 s (nI how) (bI is) (nI (2 ^ f)) s t (hk σ (rowUp I s (updA (updA (updA (I s) 4 v4) 5 v5) 6 v6)) L)) hf (by omega) (by omega)).trans ?_
    rw [← e7]
    show mX5_become_b114 s (nI how) (bI is) (nI (2 ^ f)) s v7 (hk σ (rowUp I s (updA (updA (updA (I s) 4 v4) 5 v5) 6 v6)) L) = _
    unfold mX5_become_b114
    rw [cpS 7 _ hs, obind]
    have last : ∀ b : Bool, b = so → mX5_become_b136 s (nI (2 ^ f)) (bI b) (hk σ (rowUp I s (updA (updA (updA (updA (I s) 4 v4) 5 v5) 6 v6) 7 v7)) L) = some (hk σ (rowUp I s (updA (updA (updA (updA (updA (I s) 4 v4) 5 v5) 6 v6) 7 v7) 8 v8)) L) := fun b hb => by
      have a8 : I s 8 = nI (bs (fun f => kn N f && decide (N (8 + f) = 1)) 8) := a8
      have lt := bs_lt (fun f => kn N f && decide (N (8 + f) = 1)) 8
      have o := bs_on (fun f => kn N f && decide (N (8 + f) = 1)) hf b
      unfold mX5_become_b136 mX5_become_b163
      rw [bI_if0, gG 8 hs, updA_ne _ _ (by omega), updA_ne _ _ (by omega), updA_ne _ _ (by omega), updA_ne _ _ (by omega), a8, obind, obind, nx_not (by omega), nx_or, cpS 8 _ hs, obind, cpS 8 _ hs, obind]
      cases b
      · rw [if_neg (by decide)] at o
        rw [if_pos rfl, o, hb, ← e8]
      · rw [if_pos rfl] at o
        rw [if_neg nTF, o, hb, ← e8]
    rw [bI_if0, show (1 : Int32) = nI 1 from rfl, show (4 : Int32) = nI 4 from rfl, c_eqd (by omega) (by omega), c_eqd (by omega) (by omega)]
    unfold mX5_become_b131 mX5_become_b135
    cases is
    · rw [if_pos rfl]
      exact last false (by rw [hso]; rfl)
    · rw [if_neg nTF]
      by_cases h1 : how = 1
      · rw [if_pos h1]
        exact last true (by rw [hso, decide_eq_true h1]; rfl)
      · rw [if_neg h1]
        by_cases h4 : how = 4
        · rw [if_pos h4]
          exact last true (by rw [hso, decide_eq_true h4, Bool.or_true]; rfl)
        · rw [if_neg h4]
          exact last false (by rw [hso, decide_eq_false h1, decide_eq_false h4]; rfl)
  · have pn : ∀ c, bs (fun g => decide (mkn N f how (if so = true then 1 else 0) g = c)) 8 = bs (updA (fun g => decide (N g = c)) f (decide (how = c))) 8 := fun c => bs_congr fun g hg => by
      rw [mkn_lo hf hg, updA_at]
      split <;> rfl
    have ps : knS (mkn N f how (if so = true then 1 else 0)) = bs (updA (fun f => kn N f && decide (N (8 + f) = 1)) f so) 8 := by
      unfold knS
      refine bs_congr fun g hg => ?_
      rw [mkn_kn hf hg, mkn_is hf hg, updA_at]
      by_cases e : g = f
      · rw [if_pos e, if_pos e, if_pos e, hso]
        cases is <;> cases decide (how = 1) <;> cases decide (how = 4) <;> rfl
      · rw [if_neg e, if_neg e, if_neg e]
    refine ⟨⟨?_, ?_, ?_, ?_, ?_, ?_, ?_, ?_, ?_⟩, fun k hk' => ?_⟩
    · rw [rowUp_same, updA_ne _ _ (by omega), updA_ne _ _ (by omega), updA_ne _ _ (by omega), updA_ne _ _ (by omega), updA_ne _ _ (by omega), mkn_hi hf (by omega), a0]
    · rw [rowUp_same, updA_ne _ _ (by omega), updA_ne _ _ (by omega), updA_ne _ _ (by omega), updA_ne _ _ (by omega), updA_ne _ _ (by omega), mkn_hi hf (by omega), a1]
    · rw [rowUp_same, updA_ne _ _ (by omega), updA_ne _ _ (by omega), updA_ne _ _ (by omega), updA_ne _ _ (by omega), updA_ne _ _ (by omega), mkn_hi hf (by omega), a2]
    · rw [rowUp_same, updA_ne _ _ (by omega), updA_ne _ _ (by omega), updA_ne _ _ (by omega), updA_ne _ _ (by omega), updA_ne _ _ (by omega), mkn_hi hf (by omega), a3]
      refine congrArg nI (bs_congr fun k _ => ?_)
      rw [mkn_it hf]
    · rw [rowUp_same, updA_ne _ _ (by omega), updA_ne _ _ (by omega), updA_ne _ _ (by omega), updA_ne _ _ (by omega), updA_same, pn, e4]
    · rw [rowUp_same, updA_ne _ _ (by omega), updA_ne _ _ (by omega), updA_ne _ _ (by omega), updA_same, pn, e5]
    · rw [rowUp_same, updA_ne _ _ (by omega), updA_ne _ _ (by omega), updA_same, pn, e6]
    · rw [rowUp_same, updA_ne _ _ (by omega), updA_same, pn, e7]
    · rw [rowUp_same, updA_same, ps, e8]
    · rw [mkn_hi hf (by omega)] at hk'
      rw [rowUp_ne _ _ (by omega), rowUp_ne _ _ (by omega), rowUp_ne _ _ (by omega), rowUp_ne _ _ (by omega), rowUp_ne _ _ (by omega), rowUp_ne _ _ (by omega), mkn_it hf, mkn_it hf, mkn_it hf, mkn_it hf, mkn_it hf, mkn_it hf]
      exact hb k hk'
/-- what is left, fact by fact -/
theorem lft_all (T N : Nat → Nat) (w : Nat) : lft T N w = (poss T w && allB (fun g => !kn N g || (w.testBit g == decide (N (8 + g) = 1))) 8) := by
  have e := agN_n (w := w) (knF_lt N) (knS_lt N)
  rw [knS_sub] at e
  show (poss T w && decide (w &&& knF N = knS N)) = _
  rw [← e]
  unfold agN
  refine congrArg (fun z => poss T w && z) (allB_congr fun g hg => ?_)
  rw [bt_n (by omega), bt_n (by omega)]
  unfold knF knS
  rw [bs_bit, bs_bit, decide_eq_true hg]
  cases kn N g <;> rfl
def sme (T N : Nat → Nat) (f : Nat) (so : Bool) : Bool := anyB (fun w => lft T N w && (w.testBit f == so)) 256
/-- known now, that was not -/
theorem lft_new {T N : Nat → Nat} {f how so w : Nat} (hf : f < 8) (hh : how = 1 ∨ how = 4) (hk' : kn N f = false) : lft T (mkn N f how so) w = (lft T N w && (w.testBit f == decide (so = 1))) := by
  rw [lft_all, lft_all, Bool.and_assoc]
  refine congrArg (fun z => poss T w && z) ?_
  rw [Bool.eq_iff_iff, Bool.and_eq_true, allB_iff, allB_iff]
  have kf' : kn (mkn N f how so) f = true := by
    rw [mkn_kn hf hf, if_pos rfl]; rcases hh with q | q <;> rw [q] <;> rfl
  constructor
  · intro h
    refine ⟨fun g hg => ?_, ?_⟩
    · have := h g hg
      by_cases e : g = f
      · subst e; rw [hk']; rfl
      · rw [mkn_kn hf hg, if_neg e, mkn_is hf hg, if_neg e] at this
        exact this
    · have := h f hf
      rw [kf', mkn_is hf hf, if_pos rfl] at this
      exact this
  · rintro ⟨h1, h2⟩ g hg
    by_cases e : g = f
    · subst e
      rw [kf', mkn_is hf hf, if_pos rfl]
      exact h2
    · rw [mkn_kn hf hg, if_neg e, mkn_is hf hg, if_neg e]
      exact h1 g hg
/-- no longer known, or as before -/
theorem lft_off {T N : Nat → Nat} {f how so w : Nat} (hf : f < 8) (hh : how ≠ 1 ∧ how ≠ 4) (h : lft T N w = true) : lft T (mkn N f how so) w = true := by
  rw [lft_all, Bool.and_eq_true] at h ⊢
  refine ⟨h.1, allB_iff.mpr fun g hg => ?_⟩
  have := allB_iff.mp h.2 g hg
  by_cases e : g = f
  · subst e
    rw [mkn_kn hf hg, if_pos rfl, decide_eq_false hh.1, decide_eq_false hh.2]; rfl
  · rw [mkn_kn hf hg, if_neg e, mkn_is hf hg, if_neg e]; exact this
def EX (T N : Nat → Nat) : Prop := WN T N ∧ (N 16 = 0 → ∀ f, f < 8 → N f ≠ 4)
theorem WN.make {T N : Nat → Nat} {f how so : Nat} (hW : WT T) (h : WN T N) (hf : f < T 1) (hh : how ≤ 4) (hs : so ≤ 1) (hso : so = 1 → how = 1 ∨ how = 4) (hw : ∃ w, w < 256 ∧ lft T (mkn N f how so) w = true) : WN T (mkn N f how so) := by
  have w1 := hW.1.2.1
  have hf8 : f < 8 := by omega
  obtain ⟨n1, n16, n17, n18, nk, nw⟩ := h
  refine ⟨fun g hg => ?_, by rw [mkn_hi hf8 (by omega)]; exact n16, by rw [mkn_hi hf8 (by omega)]; exact n17, by rw [mkn_hi hf8 (by omega)]; exact n18, fun k hk' => ?_, hw⟩
  · obtain ⟨g1, g2, g3, g4⟩ := n1 g hg
    rw [mkn_lo hf8 hg, mkn_is hf8 hg, mkn_kn hf8 hg]
    by_cases e : g = f
    · rw [if_pos e, if_pos e, if_pos e]
      refine ⟨hh, hs, fun q => ?_, fun q => by omega⟩
      rcases hso q with z | z <;> rw [z] <;> rfl
    · rw [if_neg e, if_neg e, if_neg e]
      exact ⟨g1, g2, g3, g4⟩
  · rw [mkn_hi hf8 (by omega)] at hk'
    have := nk k hk'
    simp only [mkn_it hf8, mkn_hi hf8 (show 16 ≤ 17 by omega)]
    exact this
theorem agN_1 {f w : Nat} (hf : f < 8) (so : Bool) : agN (nI (2 ^ f)) (nI (if so = true then 2 ^ f else 0)) w 8 = (w.testBit f == so) := by
  have b1 : ∀ g, g < 8 → bt (nI (2 ^ f)) g = decide (f = g) := fun g hg => by rw [bt_n (by omega), Nat.testBit_two_pow]
  have b2 : bt (nI (if so = true then 2 ^ f else 0)) f = so := by
    cases so
    · rw [if_neg (by decide), bt_n (by omega), Nat.zero_testBit]
    · rw [if_pos rfl, bt_n (by omega), Nat.testBit_two_pow, decide_eq_true rfl]
  unfold agN
  rw [Bool.eq_iff_iff, allB_iff]
  constructor
  · intro h
    have := h f hf
    rw [b1 f hf, decide_eq_true rfl, b2] at this
    exact this
  · intro h g hg
    rw [b1 g hg]
    by_cases e : f = g
    · subst e; rw [decide_eq_true rfl, b2]; exact h
    · rw [decide_eq_false e]; rfl
theorem leaves_ok {T N : Nat → Nat} (h : CR σ I L T N) {f : Nat} (so : Bool) (hf : f < 8) : ∃ r, mX11_leaves 100 (nI f) (bI so) (hk σ I L) = some (bI (sme T N f so), hk σ I (rowUp L 415 r)) := by
  obtain ⟨r, e1, hr⟩ := remember_ok h
  have h2 : CR σ I (rowUp L 415 r) T N := h.upL (by omega)
  have hr' : Rw ((rowUp L 415 r) 415) (lft T N) := by rw [rowUp_same]; exact hr
  have p2 : 2 ^ f < 256 := Nat.pow_lt_pow_right (a := 2) (by omega) hf
  obtain ⟨q, e2, hq⟩ := agree_ok (σ := σ) (I := I) (L := rowUp L 415 r) h2.1.2.2 (a := 414) (p := 415) wLeft (by decide) hr' (nI (2 ^ f)) (nI (if so = true then 2 ^ f else 0))
  rw [rowUp_two] at e2
  have hq' : Rw (hpL (hk σ I (rowUp L 415 q)) 415) (fun w => lft T N w && (w.testBit f == so)) := fun w hw => by
    rw [hpL_hk'', rowUp_same, hq w hw]
    show (lft T N w && agN (nI (2 ^ f)) (nI (if so = true then 2 ^ f else 0)) w 8) = (lft T N w && (w.testBit f == so))
    rw [agN_1 hf]
  have em := isEmpty_ok (wLeft (σ := σ) (I := I) (L := rowUp L 415 q)) hq'
  refine ⟨q, ?_⟩
  have b22 : mX11_leaves_b22 100 414 (nI (2 ^ f)) (nI (if so = true then 2 ^ f else 0)) (hk σ I (rowUp L 415 r)) = some (bI (sme T N f so), hk σ I (rowUp L 415 q)) := by
    unfold mX11_leaves_b22
    rw [e2, obind, gLeft, em, obind, bI_if0]
    show (if (!sme T N f so) = false then _ else _) = _
    cases sme T N f so
    · rw [if_neg (by decide)]; rfl
    · rw [if_pos (by decide)]; rfl
  unfold mX11_leaves
  rw [if_pos s100, e1, obind, gLeft, bI_if0, shl1 (by omega)]
  cases so
  · rw [if_pos rfl]; exact b22
  · rw [if_neg nTF]; exact b22
theorem bI_eq (a b : Bool) : (bI a = bI b) ↔ ((a == b) = true) := by cases a <;> cases b <;> decide
/-- how many are answered -/
def anw (N : Nat → Nat) : Nat := cntB (fun f => decide (N f ≠ 0)) 8
theorem canswered_ok {s : Nat} {N : Nat → Nat} (hs : isSt s) (h : CSt I s N) (hb : ∀ f, f < 8 → N f ≤ 4) : mX5_answered s (hk σ I L) = some (nI (anw N)) := by
  obtain ⟨⟨a0, a1, a2, a3, a4, a5, a6, a7, a8⟩, _⟩ := h
  have e : bs (fun i => (decide (N i = 1) || decide (N i = 2) || decide (N i = 3)) || decide (N i = 4)) 8 = bs (fun f => decide (N f ≠ 0)) 8 := bs_congr fun f hf => by
    have := hb f hf
    rcases (show N f = 0 ∨ N f = 1 ∨ N f = 2 ∨ N f = 3 ∨ N f = 4 by omega) with q | q | q | q | q <;> rw [q] <;> rfl
  have lt := bs_lt (fun f => decide (N f ≠ 0)) 8
  unfold mX5_answered
  rw [if_pos (sSt hs), gI_st hs, obind, gI_st hs, obind, gI_st hs, obind, gI_st hs, obind, a4, a5, a6, a7, nx_or, nx_or, nx_or, bs_or, bs_or, bs_or, e, cbits_ok _ (by omega), obind]
  refine congrArg (fun z => some (nI z)) (cntB_congr fun f hf => ?_)
  rw [bs_bit, decide_eq_true hf, Bool.true_and]
end Become
