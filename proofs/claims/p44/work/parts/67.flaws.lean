section Flaws
variable {σ : Sg} {I I' J I1 I2 : Nat → Nat → Int32} {L L' L1 L2 : Nat → Nat → Int64}
theorem bsS (p : Nat → Bool) (n : Nat) : bs p (n + 1) = bs p n ||| (if p n = true then 2 ^ n else 0) := rfl
theorem bs_gap {p : Nat → Bool} {n m : Nat} (h : n ≤ m) (hz : ∀ f, n ≤ f → f < m → p f = false) : bs p m = bs p n := by
  obtain ⟨e, rfl⟩ := Nat.le.dest h
  clear h
  induction e with
  | zero => rfl
  | succ e ih =>
    rw [show n + (e + 1) = (n + e) + 1 from rfl, bsS, hz (n + e) (by omega) (by omega), if_neg (by decide), Nat.or_zero]
    exact ih fun f h1 h2 => hz f h1 (by omega)
/-- what is wrong in a world: bits -/
def flf (T : Nat → Nat) (b w i : Nat) : Bool := if i = 0 then true else if i = 1 then !allB (fun j => ev T (T (31 + 4 * b + j)) w) (T (26 + b)) else decide (i - 2 < T 4) && (plq T b (i - 2) && !ev T (T (72 + (i - 2))) w)
def flv (T : Nat → Nat) (b w : Nat) : Nat := if poss T w = true then bs (flf T b w) 8 else 0
theorem flf_p (T : Nat → Nat) (b w p : Nat) : flf T b w (2 + p) = (decide (p < T 4) && (plq T b p && !ev T (T (72 + p)) w)) := by
  unfold flf
  rw [if_neg (by omega), if_neg (by omega), show 2 + p - 2 = p by omega]
theorem flf_2 (T : Nat → Nat) (b w : Nat) : bs (flf T b w) 2 = if allB (fun j => ev T (T (31 + 4 * b + j)) w) (T (26 + b)) = true then 1 else 3 := by
  show ((0 ||| (if true = true then 2 ^ 0 else 0)) ||| (if (!allB (fun j => ev T (T (31 + 4 * b + j)) w) (T (26 + b))) = true then 2 ^ 1 else 0)) = _
  cases allB (fun j => ev T (T (31 + 4 * b + j)) w) (T (26 + b)) <;> rfl
theorem shl4 {p : Nat} (hp : p < 6) : (4 : Int32) <<< (nI p &&& 31) = nI (2 ^ (2 + p)) := by
  have : ∀ p, p < 6 → (4 : Int32) <<< (nI p &&& 31) = nI (2 ^ (2 + p)) := by decide +kernel
  exact this p hp
theorem flaws_ok {T N : Nat → Nat} (h : CR σ I L T N) {b w : Nat} (hb : b < T 2) (hw : w < 256) : mX1_flawsAt (gla σ) (nI b) (nI w) (hk σ I L) = some (nI (flv T b w)) := by
  obtain ⟨⟨hla, hsa, hS⟩, hW, hN, hL, hSt⟩ := id h
  obtain ⟨w0, w1, w2, w3, w4, w5, w6, w7⟩ := hW.1
  obtain ⟨_, _, b26, b31, _⟩ := hW.2.2.1 b hb
  obtain ⟨l3, _, _, li⟩ := hL.2.2.1 b hb
  have h0 : (hpS (hk σ I L) (gla σ)).1 = 2 := by rw [hpS_hk, SH_la0 hla]
  have rd : mX11_at (gla σ + 3) (nI b) (hk σ I L) = some (nI (T (26 + b))) := by rw [at_r (SH_la3 hla) (by omega) (by omega), l3]
  unfold mX1_flawsAt flv
  rw [if_pos h0, gR_la hla, obind, RF_la_17 σ hla, holds_ok (wPos hla) hL.2.2.2.2.2.2 hw, obind, bI_if0]
  cases poss T w
  · rw [if_pos rfl, if_neg (by decide)]; rfl
  · rw [if_neg nTF, if_pos rfl]
    have pl : ∀ a, a = bs (flf T b w) 2 → mX1_flawsAt_l65 (gla σ) (nI b) (nI w) (nI a) 0 (hk σ I L) = some (nI (bs (flf T b w) 8)) := by
      intro a ha
      subst ha
      rw [bs_gap (n := 2 + T 4) (m := 8) (by omega) fun f h1 h2 => by
        obtain ⟨p, rfl⟩ : ∃ p, f = 2 + p := ⟨f - 2, by omega⟩
        rw [flf_p, decide_eq_false (by omega), Bool.false_and]]
      unfold mX1_flawsAt_l65
      refine lp_traj (f := fun s : Int32 × Int32 => mX1_flawsAt_l65f (gla σ) (nI b) (nI w) (hk σ I L) s.1 s.2) (T 4) (fun i => (nI (bs (flf T b w) (2 + i)), nI i)) _ (fun i hi => ?_) ?_
      · show mX1_flawsAt_l65f (gla σ) (nI b) (nI w) (hk σ I L) (nI (bs (flf T b w) (2 + i))) (nI i) = some (.inl (nI (bs (flf T b w) (2 + i) ||| (if flf T b w (2 + i) = true then 2 ^ (2 + i) else 0)), nI (i + 1)))
        have h1 := hW.2.2.2.1 i hi
        obtain ⟨l4, _, _, lw⟩ := hL.2.2.2.1 i hi
        unfold mX1_flawsAt_l65f mX1_flawsAt_b110
        rw [gI_la hla, obind, hL.1.2.2.2.1, c_lt hi (by omega), gR_la hla, obind, RF_la_9 σ hla, at_r (SH_la4 hla) (by omega) (by omega), obind, l4, c_eqd (by omega) (by omega), flf_p, decide_eq_true hi, Bool.true_and, nI_1]
        unfold plq
        by_cases e : T (66 + i) = b
        · rw [if_pos e, decide_eq_true e, Bool.true_and, L20, nI_add, table_ok hla (by omega), obind, holds_ok (wTab hla (by omega)) lw hw, obind, bI_if0]
          cases ev T (T (72 + i)) w
          · rw [if_pos rfl, if_pos (by decide), shl4 (by omega), nx_or]
          · rw [if_neg nTF, if_neg (by decide), Nat.or_zero]
        · rw [if_neg e, decide_eq_false e, Bool.false_and, if_neg (by decide), Nat.or_zero]
      · show mX1_flawsAt_l65f (gla σ) (nI b) (nI w) (hk σ I L) (nI (bs (flf T b w) (2 + T 4))) (nI (T 4)) = _
        unfold mX1_flawsAt_l65f
        rw [gI_la hla, obind, hL.1.2.2.2.1, c_nlt (Nat.le_refl _) (by omega), xts]
    unfold mX1_flawsAt_l18
    refine lp_traj (f := fun s : Int32 × Int32 => mX1_flawsAt_l18f (gla σ) (nI b) (nI w) (hk σ I L) s.1 s.2) (T (26 + b)) (fun i => (nI (if allB (fun j => ev T (T (31 + 4 * b + j)) w) i = true then 1 else 3), nI i)) _ (fun i hi => ?_) ?_
    · show mX1_flawsAt_l18f (gla σ) (nI b) (nI w) (hk σ I L) (nI (if allB (fun j => ev T (T (31 + 4 * b + j)) w) i = true then 1 else 3)) (nI i) = some (.inl (nI (if (allB (fun j => ev T (T (31 + 4 * b + j)) w) i && ev T (T (31 + 4 * b + i)) w) = true then 1 else 3), nI (i + 1)))
      unfold mX1_flawsAt_l18f mX1_flawsAt_b54
      rw [gR_la hla, obind, RF_la_8 σ hla, rd, obind, c_lt hi (by omega), needSlot_nI, obind, table_ok hla (by omega), obind, holds_ok (wTab hla (by omega)) (li i hi).2.2 hw, obind, bI_if0, nI_1]
      cases allB (fun j => ev T (T (31 + 4 * b + j)) w) i <;> cases ev T (T (31 + 4 * b + i)) w <;> rfl
    · show mX1_flawsAt_l18f (gla σ) (nI b) (nI w) (hk σ I L) (nI (if allB (fun j => ev T (T (31 + 4 * b + j)) w) (T (26 + b)) = true then 1 else 3)) (nI (T (26 + b))) = _
      unfold mX1_flawsAt_l18f
      rw [gR_la hla, obind, RF_la_8 σ hla, rd, obind, c_nlt (Nat.le_refl _) (by omega), pl _ (by rw [flf_2]), xts]
/-- whether what is wrong lets a COUNT stand -/
def snf (T : Nat → Nat) (b i : Nat) : Bool := if i = 0 then true else if i = 1 then false else decide (i - 2 < T 4) && plq T b (i - 2)
theorem snf_p (T : Nat → Nat) (b p : Nat) : snf T b (2 + p) = (decide (p < T 4) && plq T b p) := by
  unfold snf
  rw [if_neg (by omega), if_neg (by omega), show 2 + p - 2 = p by omega]
def snd (T : Nat → Nat) (b m : Nat) : Bool := m.testBit 0 && (!m.testBit 1 && allB (fun p => !plq T b p || m.testBit (2 + p)) (T 4))
theorem snd_is {T : Nat → Nat} (h4 : T 4 ≤ 6) {b m : Nat} : (m &&& (bs (snf T b) 8 ||| 2 ^ 1) = bs (snf T b) 8) ↔ snd T b m = true := by
  have bit : ∀ i, i < 8 → (bs (snf T b) 8).testBit i = snf T b i := fun i hi => by rw [bs_bit, decide_eq_true hi, Bool.true_and]
  unfold snd
  rw [Bool.and_eq_true, Bool.and_eq_true, allB_iff]
  constructor
  · intro h
    have at' : ∀ i, i < 8 → (m.testBit i && (snf T b i || decide (1 = i))) = snf T b i := fun i hi => by
      have := congrArg (fun x => x.testBit i) h
      simp only [Nat.testBit_and, Nat.testBit_or, Nat.testBit_two_pow] at this
      rw [bit i hi] at this
      exact this
    refine ⟨?_, ?_, fun p hp => ?_⟩
    · have := at' 0 (by omega)
      rw [show snf T b 0 = true from rfl] at this
      revert this; cases m.testBit 0 <;> simp
    · have := at' 1 (by omega)
      rw [show snf T b 1 = false from rfl] at this
      revert this; cases m.testBit 1 <;> simp
    · have := at' (2 + p) (by omega)
      rw [snf_p, decide_eq_true hp] at this
      revert this; cases m.testBit (2 + p) <;> cases plq T b p <;> simp
  · rintro ⟨h1, h2, h3⟩
    apply Nat.eq_of_testBit_eq; intro i
    rw [Nat.testBit_and, Nat.testBit_or, Nat.testBit_two_pow, bs_bit]
    by_cases hi : i < 8
    · rw [decide_eq_true hi, Bool.true_and]
      have c3 : i = 0 ∨ i = 1 ∨ ∃ p, i = 2 + p := by
        rcases (show i = 0 ∨ i = 1 ∨ 2 ≤ i by omega) with h | h | h
        · exact Or.inl h
        · exact Or.inr (Or.inl h)
        · exact Or.inr (Or.inr ⟨i - 2, by omega⟩)
      rcases c3 with rfl | rfl | ⟨p, rfl⟩
      · rw [h1]; rfl
      · rw [show snf T b 1 = false from rfl]
        revert h2; cases m.testBit 1 <;> simp
      · rw [snf_p, decide_eq_false (show ¬ 1 = 2 + p by omega)]
        by_cases hp : p < T 4
        · have := h3 p hp
          rw [decide_eq_true hp]
          revert this; cases m.testBit (2 + p) <;> cases plq T b p <;> simp
        · rw [decide_eq_false hp]; simp
    · rw [decide_eq_false hi, decide_eq_false (show ¬ 1 = i by omega)]; simp
theorem sound_ok {T N : Nat → Nat} (h : CR σ I L T N) {b m : Nat} (hb : b < T 2) (hm : m < 256) : mX1_sound (gla σ) (nI b) (nI m) (hk σ I L) = some (bI (snd T b m)) := by
  obtain ⟨⟨hla, hsa, hS⟩, hW, hN, hL, hSt⟩ := id h
  obtain ⟨w0, w1, w2, w3, w4, w5, w6, w7⟩ := hW.1
  have h0 : (hpS (hk σ I L) (gla σ)).1 = 2 := by rw [hpS_hk, SH_la0 hla]
  have g8 : bs (snf T b) 8 = bs (snf T b) (2 + T 4) := bs_gap (by omega) fun f h1 h2 => by
    obtain ⟨p, rfl⟩ : ∃ p, f = 2 + p := ⟨f - 2, by omega⟩
    rw [snf_p, decide_eq_false (by omega), Bool.false_and]
  have s2 : bs (snf T b) 2 = 1 := by
    show ((0 ||| (if true = true then 2 ^ 0 else 0)) ||| (if false = true then 2 ^ 1 else 0)) = 1
    rfl
  unfold mX1_sound mX1_sound_l5
  rw [if_pos h0, show ((1 : Int32), (0 : Int32)) = (nI (bs (snf T b) (2 + 0)), nI 0) by rw [Nat.add_zero, s2]; rfl]
  refine lp_traj (f := fun s : Int32 × Int32 => mX1_sound_l5f (gla σ) (nI b) (nI m) (hk σ I L) s.1 s.2) (T 4) (fun i => (nI (bs (snf T b) (2 + i)), nI i)) _ (fun i hi => ?_) ?_
  · show mX1_sound_l5f (gla σ) (nI b) (nI m) (hk σ I L) (nI (bs (snf T b) (2 + i))) (nI i) = some (.inl (nI (bs (snf T b) (2 + i) ||| (if snf T b (2 + i) = true then 2 ^ (2 + i) else 0)), nI (i + 1)))
    have h1 := hW.2.2.2.1 i hi
    obtain ⟨l4, _, _, lw⟩ := hL.2.2.2.1 i hi
    unfold mX1_sound_l5f mX1_sound_b36
    rw [gI_la hla, obind, hL.1.2.2.2.1, c_lt hi (by omega), gR_la hla, obind, RF_la_9 σ hla, at_r (SH_la4 hla) (by omega) (by omega), obind, l4, c_eqd (by omega) (by omega), snf_p, decide_eq_true hi, Bool.true_and, nI_1]
    unfold plq
    by_cases e : T (66 + i) = b
    · rw [if_pos e, decide_eq_true e, if_pos rfl, shl4 (by omega), nx_or]
    · rw [if_neg e, decide_eq_false e, if_neg (by decide), Nat.or_zero, nx_or0]
  · show mX1_sound_l5f (gla σ) (nI b) (nI m) (hk σ I L) (nI (bs (snf T b) (2 + T 4))) (nI (T 4)) = _
    have lt := bs_lt (snf T b) 8
    have o := Nat.or_lt_two_pow (n := 8) lt (show 2 ^ 1 < 2 ^ 8 by decide)
    have a := Nat.lt_of_le_of_lt (Nat.and_le_left (n := m) (m := bs (snf T b) 8 ||| 2 ^ 1)) hm
    unfold mX1_sound_l5f
    rw [gI_la hla, obind, hL.1.2.2.2.1, c_nlt (Nat.le_refl _) (by omega), ← g8, show (2 : Int32) = nI (2 ^ 1) from rfl, nx_or, nx_and, c_eqd (by omega) (by omega)]
    by_cases e : m &&& (bs (snf T b) 8 ||| 2 ^ 1) = bs (snf T b) 8
    · rw [if_pos e, snd_is w4 |>.mp e, xts]; rfl
    · have : snd T b m = false := by rw [← Bool.not_eq_true]; exact fun z => e ((snd_is w4).mpr z)
      rw [if_neg e, this, xts]; rfl
/-- the worlds of a node of the tree for what is lacking -/
theorem inT_2 {F0 S So fs so v n : Nat} (hF : ∀ i, F0.testBit i = (decide (i < n) && !S.testBit i)) (hSo : sb So S) (hf : sb fs F0) (hs : sb so fs) (hv : v < 2 ^ n) : inT F0 So fs so v = decide (v &&& (S ||| fs) = So ||| so) := by
  unfold inT
  rw [← Bool.decide_and]
  have hvb : ∀ i, v.testBit i = true → i < n := fun i hi => by
    cases Nat.lt_or_ge i n with
    | inl q => exact q
    | inr q => rw [Nat.testBit_lt_two_pow (Nat.lt_of_lt_of_le hv (Nat.pow_le_pow_right (by omega) q))] at hi; cases hi
  have key : (v = v &&& F0 ||| So ∧ v &&& fs = so) ↔ v &&& (S ||| fs) = So ||| so := by
    constructor
    · rintro ⟨h1, h2⟩
      apply Nat.eq_of_testBit_eq; intro i
      have a := congrArg (fun x => x.testBit i) h1
      have b := congrArg (fun x => x.testBit i) h2
      simp only [Nat.testBit_and, Nat.testBit_or] at a b ⊢
      have c := hF i
      have d := hSo i
      have e := hf i
      have f := hs i
      rw [c] at a e
      revert a b d e f
      cases v.testBit i <;> cases S.testBit i <;> cases So.testBit i <;> cases fs.testBit i <;> cases so.testBit i <;> cases decide (i < n) <;> simp
    · intro h1
      have bits : ∀ i, (v.testBit i && (S.testBit i || fs.testBit i)) = (So.testBit i || so.testBit i) := fun i => by
        have a := congrArg (fun x => x.testBit i) h1
        simp only [Nat.testBit_and, Nat.testBit_or] at a
        exact a
      constructor
      · apply Nat.eq_of_testBit_eq; intro i
        rw [Nat.testBit_or, Nat.testBit_and, hF i]
        have a := bits i
        have d := hSo i
        have e := hf i
        have f := hs i
        rw [hF i] at e
        have g := hvb i
        by_cases hi : i < n
        · rw [decide_eq_true hi] at e ⊢
          revert a d e f
          cases v.testBit i <;> cases S.testBit i <;> cases So.testBit i <;> cases fs.testBit i <;> cases so.testBit i <;> simp
        · have vf : v.testBit i = false := by
            cases q : v.testBit i
            · rfl
            · exact absurd (g q) hi
          rw [decide_eq_false hi] at e ⊢
          rw [vf] at a ⊢
          revert a d e f
          cases S.testBit i <;> cases So.testBit i <;> cases fs.testBit i <;> cases so.testBit i <;> simp
      · apply Nat.eq_of_testBit_eq; intro i
        rw [Nat.testBit_and]
        have a := bits i
        have d := hSo i
        have e := hf i
        have f := hs i
        rw [hF i] at e
        revert a d e f
        cases v.testBit i <;> cases S.testBit i <;> cases So.testBit i <;> cases fs.testBit i <;> cases so.testBit i <;> cases decide (i < n) <;> simp
  exact decide_eq_decide.mpr key
theorem mk_fl {T : Nat → Nat} {b F0 S So fs so : Nat} (hF : ∀ i, F0.testBit i = (decide (i < T 1) && !S.testBit i)) (hSo : sb So S) (hf : sb fs F0) (hs : sb so fs) (i : Nat) :
    (mk (flv T b) F0 So fs so).testBit i = anyB (fun v => agr T (S ||| fs) (So ||| so) v && (decide (i < 8) && flf T b v i)) 256 := by
  unfold mk
  rw [og_bit]
  refine anyB_congr fun v hv => ?_
  unfold agr flv
  cases hp : poss T v
  · rw [if_neg (show ¬ false = true by decide), Bool.false_and, Bool.false_and]
    split <;> exact Nat.zero_testBit _
  · have hvl : v < 2 ^ T 1 := by
      unfold poss at hp; rw [Bool.and_eq_true] at hp; exact of_decide_eq_true hp.1
    rw [inT_2 hF hSo hf hs hvl, if_pos rfl, Bool.true_and]
    cases decide (v &&& (S ||| fs) = So ||| so)
    · rw [if_neg (show ¬ false = true by decide), Bool.false_and]; exact Nat.zero_testBit _
    · rw [if_pos rfl, Bool.true_and, bs_bit]
theorem snd_fl {T : Nat → Nat} (h4 : T 4 ≤ 6) {b F0 S So fs so : Nat} (hF : ∀ i, F0.testBit i = (decide (i < T 1) && !S.testBit i)) (hSo : sb So S) (hf : sb fs F0) (hs : sb so fs) :
    snd T b (mk (flv T b) F0 So fs so) = (anyB (agr T (S ||| fs) (So ||| so)) 256 && (allB (fun i => sure T (agr T (S ||| fs) (So ||| so)) (T (31 + 4 * b + i))) (T (26 + b)) && !anyB (fun p => plq T b p && sure T (agr T (S ||| fs) (So ||| so)) (T (72 + p))) (T 4))) := by
  obtain ⟨A, hA⟩ : ∃ A, A = agr T (S ||| fs) (So ||| so) := ⟨_, rfl⟩
  have m := mk_fl (T := T) (b := b) hF hSo hf hs
  rw [← hA] at m ⊢
  unfold snd
  rw [Bool.eq_iff_iff, Bool.and_eq_true, Bool.and_eq_true, Bool.and_eq_true, Bool.and_eq_true, m 0, m 1]
  refine and_congr ?_ (and_congr ?_ ?_)
  · rw [anyB_iff, anyB_iff]
    constructor
    · rintro ⟨w, h1, h2⟩
      rw [Bool.and_eq_true] at h2
      exact ⟨w, h1, h2.1⟩
    · rintro ⟨w, h1, h2⟩
      exact ⟨w, h1, by rw [h2]; rfl⟩
  · rw [Bool.not_eq_true', ← Bool.not_eq_true, anyB_iff, allB_iff]
    constructor
    · intro h i hi
      unfold sure
      rw [allB_iff]
      intro w hw
      cases q : A w
      · rfl
      · cases q2 : ev T (T (31 + 4 * b + i)) w
        · exfalso
          refine h ⟨w, hw, ?_⟩
          rw [q]
          show (true && (true && !allB (fun j => ev T (T (31 + 4 * b + j)) w) (T (26 + b)))) = true
          have : allB (fun j => ev T (T (31 + 4 * b + j)) w) (T (26 + b)) = false := by
            rw [← Bool.not_eq_true, allB_iff]
            intro z
            rw [z i hi] at q2; cases q2
          rw [this]; rfl
        · rfl
    · rintro h ⟨w, hw, h2⟩
      rw [Bool.and_eq_true] at h2
      have h3 : (true && !allB (fun j => ev T (T (31 + 4 * b + j)) w) (T (26 + b))) = true := h2.2
      have : allB (fun j => ev T (T (31 + 4 * b + j)) w) (T (26 + b)) = true := by
        rw [allB_iff]
        intro j hj
        have := h j hj
        unfold sure at this
        have := allB_iff.mp this w hw
        rw [h2.1] at this
        exact this
      rw [this] at h3; cases h3
  · rw [Bool.not_eq_true', ← Bool.not_eq_true, anyB_iff, allB_iff]
    have mp : ∀ p, p < T 4 → (mk (flv T b) F0 So fs so).testBit (2 + p) = anyB (fun v => A v && (plq T b p && !ev T (T (72 + p)) v)) 256 := fun p hp => by
      rw [m]
      refine anyB_congr fun v _ => ?_
      rw [flf_p, decide_eq_true hp, decide_eq_true (show 2 + p < 8 by omega)]
      simp
    constructor
    · rintro h ⟨p, hp, h2⟩
      rw [Bool.and_eq_true] at h2
      have := h p hp
      rw [mp p hp, h2.1] at this
      have := anyB_iff.mp (by simpa using this)
      obtain ⟨v, hv, h3⟩ := this
      have h4 := allB_iff.mp h2.2 v hv
      simp at h3 h4
      rcases h4 with q | q
      · rw [q] at h3; cases h3.1
      · rw [q] at h3; cases h3.2
    · intro h p hp
      rw [mp p hp]
      cases q : plq T b p
      · rfl
      · show (false || _) = true
        rw [Bool.false_or, anyB_iff]
        have : sure T A (T (72 + p)) = false := by
          rw [← Bool.not_eq_true]
          exact fun z => h ⟨p, hp, by rw [q, z]; rfl⟩
        unfold sure at this
        rw [← Bool.not_eq_true, allB_iff] at this
        have := Classical.not_forall.mp this
        obtain ⟨v, hv⟩ := this
        have := Classical.not_imp.mp hv
        refine ⟨v, this.1, ?_⟩
        have h5 := this.2
        revert h5
        cases A v <;> cases ev T (T (72 + p)) v <;> simp
end Flaws
