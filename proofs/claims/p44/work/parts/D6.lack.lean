/-! WHAT A COUNT LACKS, said fact by fact -/
section D6
variable {T N M : Nat → Nat} {k f how so fs x : Nat}
/-- a state where one COUNT says more -/
def SD (N M : Nat → Nat) (k fs so j : Nat) : Prop :=
  (∀ i, i ≠ 19 + 8 * k + 4 → i ≠ 19 + 8 * k + 5 → M i = N i) ∧ it M k 4 = it N k 4 ||| bs (fun g => fs.testBit g) j ∧ it M k 5 = it N k 5 ||| bs (fun g => so.testBit g) j
theorem sd_it (h : SD N M k fs so x) {o j : Nat} (hj : j < 8) (hne : ¬ (o = k ∧ (j = 4 ∨ j = 5))) : it M o j = it N o j := by
  unfold it
  exact h.1 _ (by omega) (by omega)
theorem bkF_same {B B' : Nat → Nat} {S : Nat} (hB : ∀ o, o < k → B' o = B o) (h1 : it M k 1 = it N k 1) (h : ∀ o, o < k → it M o 1 = it N o 1 ∧ it M o 4 = it N o 4) : ∀ o, o ≤ k → bkF B' M k S o = bkF B N k S o
  | 0, _ => h1
  | o + 1, ho => by
    obtain ⟨a1, a4⟩ := h o (by omega)
    show (if S ≠ 0 ∧ it M o 1 < it M k 1 ∧ pc S ≤ 2 * pc (it M o 4 &&& S) then min (bkF B' M k S o) (B' o) else bkF B' M k S o) = (if S ≠ 0 ∧ it N o 1 < it N k 1 ∧ pc S ≤ 2 * pc (it N o 4 &&& S) then min (bkF B N k S o) (B o) else bkF B N k S o)
    rw [a1, a4, h1, hB o (by omega), bkF_same hB h1 h o (by omega)]
theorem BK_same : ∀ n, (∀ o, o < n → it M o 1 = it N o 1 ∧ it M o 4 = it N o 4) → BK M n = BK N n
  | 0, _ => rfl
  | n + 1, h => by
    have ih := BK_same n fun o ho => h o (by omega)
    obtain ⟨a1, a4⟩ := h n (by omega)
    show updA (BK M n) n (bkF (BK M n) M n (it M n 4) n) = updA (BK N n) n (bkF (BK N n) N n (it N n 4) n)
    rw [ih, a4, bkF_same (fun _ _ => rfl) a1 (fun o ho => h o (by omega)) n (Nat.le_refl _)]
theorem sd_fls (h : SD N M k fs so x) (S So : Nat) : fls T M k S So = fls T N k S So := by
  have i0 : it M k 0 = it N k 0 := sd_it h (by omega) (by omega)
  have i1 : it M k 1 = it N k 1 := sd_it h (by omega) (by omega)
  have i3 : it M k 3 = it N k 3 := sd_it h (by omega) (by omega)
  have i6 : it M k 6 = it N k 6 := sd_it h (by omega) (by omega)
  have lh : lft T M = lft T N := lft_hi fun i hi => h.1 i (by omega) (by omega)
  have low : ∀ o, o < k → it M o 1 = it N o 1 ∧ it M o 4 = it N o 4 := fun o ho => ⟨sd_it h (by omega) (by omega), sd_it h (by omega) (by omega)⟩
  have hb : ∀ o, o < k → bk M o = bk N o := fun o ho => by
    unfold bk
    rw [BK_same (o + 1) fun u hu => low u (by omega)]
  unfold fls
  rw [i0, i3, i6, lh, bkF_same hb i1 low k (Nat.le_refl _)]
theorem bsn (z : Nat) (j i : Nat) : (bs (fun g => z.testBit g) j).testBit i = (decide (i < j) && z.testBit i) := bs_bit _ _ _
theorem sd_skip {j : Nat} (h : SD N M k fs so j) (hb : fs.testBit j = false) (hs : sb so fs) : SD N M k fs so (j + 1) := by
  have hb2 : so.testBit j = false := by
    cases q : so.testBit j
    · rfl
    · rw [hs j q] at hb; cases hb
  have e : ∀ z : Nat, z.testBit j = false → bs (fun g => z.testBit g) (j + 1) = bs (fun g => z.testBit g) j := fun z hz => by
    apply Nat.eq_of_testBit_eq
    intro i
    rw [bsn, bsn]
    by_cases e : i = j
    · subst e; rw [hz, Bool.and_false, Bool.and_false]
    · rw [show (decide (i < j + 1)) = decide (i < j) from decide_eq_decide.mpr (by omega)]
  exact ⟨h.1, by rw [e _ hb]; exact h.2.1, by rw [e _ hb2]; exact h.2.2⟩
theorem bs_on1 {z j : Nat} (hz : z.testBit j = true) : bs (fun g => z.testBit g) (j + 1) = bs (fun g => z.testBit g) j ||| 2 ^ j := by
  apply Nat.eq_of_testBit_eq
  intro i
  rw [bsn, tb_or1, bsn]
  by_cases e : i = j
  · subst e; rw [hz, decide_eq_true (show i < i + 1 by omega), decide_eq_true (show i = i from rfl), Bool.or_true]; rfl
  · rw [show (decide (i < j + 1)) = decide (i < j) from decide_eq_decide.mpr (by omega), decide_eq_false e, Bool.or_false]
theorem bs_off1 {z j : Nat} (hz : z.testBit j = false) : bs (fun g => z.testBit g) (j + 1) = bs (fun g => z.testBit g) j := by
  apply Nat.eq_of_testBit_eq
  intro i
  rw [bsn, bsn]
  by_cases e : i = j
  · subst e; rw [hz, Bool.and_false, Bool.and_false]
  · rw [show (decide (i < j + 1)) = decide (i < j) from decide_eq_decide.mpr (by omega)]
theorem or_as (a b c : Nat) : (a ||| b) ||| c = a ||| (b ||| c) := Nat.or_assoc a b c
theorem sd_say {j : Nat} (h : SD N M k fs so j) (hb : fs.testBit j = true) (hS : (it M k 4).testBit j = false) (hs : sb (it M k 5) (it M k 4)) {b : Nat} (hb2 : b = if so.testBit j = true then 1 else 0) :
    SD N (updA (updA M (19 + 8 * k + 4) (tlS (it M k 4) j b)) (19 + 8 * k + 5) (tlO (it M k 5) j b)) k fs so (j + 1) := by
  have b2 : b < 2 := by rw [hb2]; split <;> omega
  refine ⟨fun i h4 h5 => by rw [updA_ne _ _ h5, updA_ne _ _ h4]; exact h.1 i h4 h5, ?_, ?_⟩
  · rw [it_upd (by omega) (by omega), if_neg (by omega), it_upd (by omega) (by omega), if_pos ⟨rfl, rfl⟩]
    unfold tlS
    rw [if_pos b2, h.2.1, bs_on1 hb, or_as]
  · rw [it_upd (by omega) (by omega), if_pos ⟨rfl, rfl⟩]
    unfold tlO
    cases q : so.testBit j
    · rw [q, if_neg (by decide)] at hb2
      rw [if_neg (by omega), rmv_no (by
        cases z : (it M k 5).testBit j
        · rfl
        · rw [hs j z] at hS; cases hS), bs_off1 q]
      exact h.2.2
    · rw [q, if_pos rfl] at hb2
      rw [if_pos hb2, h.2.2, bs_on1 q, or_as]
theorem pc_sub {a b : Nat} (h : sb a b) : pc a ≤ pc b := cntB_leq fun i _ hi => h i hi
theorem pc_sub_lt {a b j : Nat} (h : sb a b) (hj : j < 8) (h0 : a.testBit j = false) (h1 : b.testBit j = true) : pc a < pc b := by
  have e := pc_or (s := a) hj h0
  have : sb (a ||| 2 ^ j) b := fun i hi => by
    rw [tb_or1, Bool.or_eq_true] at hi
    rcases hi with q | q
    · exact h i q
    · rw [of_decide_eq_true q]; exact h1
  have := pc_sub this
  omega
theorem bs_sb (z j : Nat) : sb (bs (fun g => z.testBit g) j) z := fun i hi => by
  rw [bsn, Bool.and_eq_true] at hi; exact hi.2
/-- the least it lacks: said in part it doesn't stand -/
theorem lok_part {c : Nat} (hl : lok T N k c = true) (hmin : ∀ d, d < c → lok T N k d = false) (hc : c < 589824) {j : Nat} (hj : j < 8) (hb : (kf c).testBit j = true) :
    fls T N k (it N k 4 ||| bs (fun g => (kf c).testBit g) j) (it N k 5 ||| bs (fun g => (ks c).testBit g) j) ≠ 0 := by
  intro hz
  unfold lok at hl
  rw [Bool.and_eq_true, Bool.and_eq_true] at hl
  obtain ⟨hp, hf, hs⟩ := kv_iff.mp hl.1
  have hk2 := of_decide_eq_true hl.2.1
  obtain ⟨F, hF⟩ : ∃ F, F = bs (fun g => (kf c).testBit g) j := ⟨_, rfl⟩
  obtain ⟨S, hS⟩ : ∃ S, S = bs (fun g => (ks c).testBit g) j := ⟨_, rfl⟩
  rw [← hF, ← hS] at hz
  have sF : sb F (kf c) := by rw [hF]; exact bs_sb _ _
  have sS : sb S F := fun i hi => by
    rw [hS, bsn, Bool.and_eq_true] at hi
    rw [hF, bsn, hi.1, hs i hi.2]; rfl
  have F8 : F < 256 := Nat.lt_of_le_of_lt (sb_le sF) (kf_lt c)
  have S8 : S < 256 := Nat.lt_of_le_of_lt (sb_le sS) F8
  have pl : pc F < pc (kf c) := pc_sub_lt sF hj (by rw [hF, bsn, decide_eq_false (by omega), Bool.false_and]) hb
  have p8 := pc_le (kf c)
  obtain ⟨d, hd⟩ : ∃ d, d = pc F * 65536 + F * 256 + S := ⟨_, rfl⟩
  have ec : kf d = F := by rw [hd]; exact kf_at F8 S8
  have es : ks d = S := by rw [hd]; exact ks_at F8 S8
  have em : d / 65536 = pc F := by omega
  have hlt : d < c := by omega
  have : lok T N k d = true := by
    unfold lok
    rw [ec, es, kv_iff.mpr ⟨by rw [ec, em], by rw [ec]; exact fun i hi => hf i (sF i hi), by rw [ec, es]; exact sS⟩, Bool.true_and, Bool.and_eq_true]
    refine ⟨decide_eq_true ?_, decide_eq_true hz⟩
    apply Nat.eq_of_testBit_eq
    intro i
    have := congrArg (fun z => z.testBit i) hk2
    simp only [Nat.testBit_and, Nat.testBit_xor, Nat.zero_testBit] at this ⊢
    cases q : F.testBit i
    · simp
    · have q1 := sF i q
      rw [hF, bsn, Bool.and_eq_true] at q
      have q2 : S.testBit i = (ks c).testBit i := by rw [hS, bsn, q.1, Bool.true_and]
      rw [q2]
      rw [q1] at this
      simpa using this
  rw [hmin d hlt] at this
  cases this
end D6
