section LackM
variable {σ : Sg} {I I' J I1 I2 : Nat → Nat → Int32} {L L' L1 L2 : Nat → Nat → Int64}
def NR (T N : Nat → Nat) (k a b : Nat) : Prop := ∀ d, a ≤ d → d < b → lok T N k d = false
theorem NR.tr {T N : Nat → Nat} {k a b c : Nat} (h : NR T N k a b) (g : NR T N k b c) : NR T N k a c := fun d h1 h2 => by
  by_cases q : d < b
  · exact h d h1 q
  · exact g d (by omega) h2
theorem NR.kv {T N : Nat → Nat} {k a b : Nat} (h : ∀ d, a ≤ d → d < b → kv (fr2 T N k) d = false) : NR T N k a b := fun d h1 h2 => by unfold lok; rw [h d h1 h2]; rfl
/-- what is found -/
def FD (σ : Sg) (I : Nat → Nat → Int32) (L : Nat → Nat → Int64) (c : Nat) (h : Hp) : Prop := ∃ r, h = hk σ (rowUp (rowUp I 448 r) 433 (updA (updA (I 433) 31 (nI (kf c))) 32 (nI (ks c)))) L
/-- the first one in a stretch, or none -/
def fdI (T N : Nat → Nat) (σ : Sg) (I : Nat → Nat → Int32) (L : Nat → Nat → Int64) (k a b : Nat) (h : Hp) : Prop := ∃ c, a ≤ c ∧ c < b ∧ lok T N k c = true ∧ NR T N k a c ∧ FD σ I L c h
theorem lin_one {T N : Nat → Nat} (h : MI I T N) {k m F S : Nat} (hk' : k < N 18) (hB : ∀ o, o < N 18 → I 449 o = nI (bk N o)) (hm : pc F = m) (hF : sb F (fr2 T N k)) (hS : S ≤ F) (r : Nat → Int32) :
    (lok T N k (m * 65536 + F * 256 + S) = false ∧ ∃ r', mX12_lacksSo_l45f 433 (nI k) (nI m) (nI (it N k 4)) (nI F) (nI S) (hk σ (rowUp I 448 r) L) = some (.inl (nI (S + 1), hk σ (rowUp I 448 r') L))) ∨
    (lok T N k (m * 65536 + F * 256 + S) = true ∧ ∃ h', mX12_lacksSo_l45f 433 (nI k) (nI m) (nI (it N k 4)) (nI F) (nI S) (hk σ (rowUp I 448 r) L) = some (.inr (.inr (1, h'))) ∧ FD σ I L (m * 65536 + F * 256 + S) h') := by
  have hW := h.2.2.1
  have hFb := fr2_lt (N := N) (k := k) hW
  have hFl := sb_le hF
  obtain ⟨i4, i5, i54⟩ := WN.say hW h.2.2.2.1 hk'
  have n18 := (h.2.2.2.1.bkH hW).1
  have mi : MI (rowUp I 448 r) T N := h.up (by omega) (by omega) (by omega)
  have N4 : ∀ f, f < 8 → N f ≤ 4 := fun f hf => (h.2.2.2.1.1 f hf).1
  have N8 : ∀ f, f < 8 → N f ≤ 4 ∧ N (8 + f) ≤ 1 := fun f hf => ⟨(h.2.2.2.1.1 f hf).1, (h.2.2.2.1.1 f hf).2.1⟩
  have k1 := kf_at (m := m) (F := F) (S := S) (by omega) (by omega)
  have k2 := ks_at (m := m) (F := F) (S := S) (by omega) (by omega)
  obtain ⟨c, hc⟩ : ∃ c, c = m * 65536 + F * 256 + S := ⟨_, rfl⟩
  rw [← hc] at k1 k2 ⊢
  unfold mX12_lacksSo_l45f
  rw [if_neg (show ¬ nI F < nI S from nI_nlt hS (by omega)), nx_not (by omega)]
  by_cases hs : sb S F
  · have hv : kv (fr2 T N k) c = true := kv_iff.mpr ⟨by rw [k1, hm]; omega, by rw [k1]; exact hF, by rw [k1, k2]; exact hs⟩
    have al : ((S ^^^ knS N) &&& F) &&& knF N < 256 := Nat.lt_of_le_of_lt Nat.and_le_right (knF_lt N)
    have lk : lok T N k c = (decide (((S ^^^ knS N) &&& F) &&& knF N = 0) && decide (fls T N k (it N k 4 ||| F) (it N k 5 ||| S) = 0)) := by
      unfold lok; rw [hv, k1, k2, Bool.true_and]
    rw [if_pos (show nI (S ^^^ (S &&& F)) = 0 by rw [sb_iff.mpr hs]; rfl), knownSo_ok mi.2.1 N8, obind, knownFacts_ok mi.2.1 N4, obind, nx_xor, nx_and, nx_and, c_0 (by omega), lk]
    by_cases ha : ((S ^^^ knS N) &&& F) &&& knF N = 0
    · obtain ⟨r', e⟩ := mfailsBy_ok (σ := σ) (L := L) mi (k := k) (S := it N k 4 ||| F) (So := it N k 5 ||| S) hk' (Nat.or_lt_two_pow (n := 8) i4 (by omega)) (Nat.or_lt_two_pow (n := 8) i5 (by omega)) (fun o ho => by rw [rowUp_at, if_neg (by decide)]; exact hB o ho)
      rw [rowUp_two] at e
      have fb : fls T N k (it N k 4 ||| F) (it N k 5 ||| S) ≤ 6 := by
        unfold fls
        repeat' split
        all_goals omega
      rw [if_pos ha, decide_eq_true ha, Bool.true_and]
      unfold mX12_lacksSo_b85 mX12_lacksSo_b127
      rw [if_neg (show ¬ (1 : Int32) = 0 by decide), show (5 : Int32) = nI 5 from rfl, its_n mi.2.1 (by omega) (by omega), obind, nx_or, nx_or, e, b2s, c_0 (by omega)]
      by_cases hz : fls T N k (it N k 4 ||| F) (it N k 5 ||| S) = 0
      · rw [if_pos hz, decide_eq_true hz, sI_ok s433, obind, setI_hk, hpI_hk', rowUp_at, if_neg (show ¬ 433 = 448 by decide), sI_ok s433, obind, setI_hk, rowUp_two, hpI_hk', rowUp_same, xts, xts]
        exact Or.inr ⟨rfl, _, rfl, r', by rw [k1, k2]⟩
      · rw [if_neg hz, decide_eq_false hz, nI_1]
        exact Or.inl ⟨rfl, r', rfl⟩
    · rw [if_neg ha, decide_eq_false ha]
      unfold mX12_lacksSo_b84 mX12_lacksSo_b85 mX12_lacksSo_b127
      rw [if_pos rfl, nI_1]
      exact Or.inl ⟨rfl, r, rfl⟩
  · rw [if_neg (show ¬ nI (S ^^^ (S &&& F)) = 0 from fun z => hs (sb_iff.mp (by
      have hb : S ^^^ (S &&& F) < 256 := Nat.xor_lt_two_pow (n := 8) (by omega) (Nat.lt_of_le_of_lt Nat.and_le_left (by omega))
      exact (nI_eq (by omega) (by omega)).mp z)))]
    unfold mX12_lacksSo_b84 mX12_lacksSo_b85 mX12_lacksSo_b127
    rw [if_pos rfl, nI_1]
    refine Or.inl ⟨?_, r, rfl⟩
    unfold lok
    rw [kv_no fun z => hs (by have := z.2.2; rw [k1, k2] at this; exact this)]; rfl
theorem lin_row {T N : Nat → Nat} (h : MI I T N) {k m F : Nat} (hk' : k < N 18) (hB : ∀ o, o < N 18 → I 449 o = nI (bk N o)) (hm9 : m < 9) (hF : F < 2 ^ T 1) (r : Nat → Int32) :
    (NR T N k (m * 65536 + F * 256) (m * 65536 + (F + 1) * 256) ∧ ∃ r', mX12_lacksSo_l10f 433 (nI k) (nI m) (nI (it N k 4)) (nI F) (hk σ (rowUp I 448 r) L) = some (.inl (nI (F + 1), hk σ (rowUp I 448 r') L))) ∨
    (∃ h', mX12_lacksSo_l10f 433 (nI k) (nI m) (nI (it N k 4)) (nI F) (hk σ (rowUp I 448 r) L) = some (.inr (1, h')) ∧ fdI T N σ I L k (m * 65536 + F * 256) (m * 65536 + (F + 1) * 256) h') := by
  have hW := h.2.2.1
  have w1 := hW.1.2.1
  have hp := ev_lt w1
  obtain ⟨i4, i5, i54⟩ := WN.say hW h.2.2.2.1 hk'
  have mi : ∀ r, MI (rowUp I 448 r) T N := fun r => h.up (by omega) (by omega) (by omega)
  have skip : ¬ (pc F = m ∧ sb F (fr2 T N k)) → NR T N k (m * 65536 + F * 256) (m * 65536 + (F + 1) * 256) ∧ ∃ r', mX12_lacksSo_b133 433 (nI k) (nI m) (nI (it N k 4)) (nI F) (hk σ (rowUp I 448 r) L) = some (.inl (nI (F + 1), hk σ (rowUp I 448 r') L)) := fun q => by
    refine ⟨NR.kv fun d h1 h2 => kv_no fun z => q ?_, r, ?_⟩
    · have a : kf d = F := by unfold kf; omega
      have b : d / 65536 = m := by omega
      rw [a, b] at z
      exact ⟨z.1, z.2.1⟩
    · unfold mX12_lacksSo_b133; rw [nI_1]
  have pb := pc_le F
  unfold mX12_lacksSo_l10f
  rw [g434, ldT1 (mi r).1, obind, shl1 (by omega), c_lt hF (by omega), mbits_n (by omega), obind, c_eqd (by omega) (by omega)]
  by_cases hm : pc F = m
  · rw [if_pos hm, nx_and]
    by_cases z : F &&& it N k 4 = 0
    · have hsb : sb F (fr2 T N k) := fun i hi => by
        rw [fr2_bit]
        have h1 : i < T 1 := by
          cases Nat.lt_or_ge i (T 1) with
          | inl q => exact q
          | inr q => rw [Nat.testBit_lt_two_pow (Nat.lt_of_lt_of_le hF (Nat.pow_le_pow_right (by omega) q))] at hi; cases hi
        have h2 := congrArg (fun x => x.testBit i) z
        simp only [Nat.testBit_and, Nat.zero_testBit] at h2
        rw [hi, Bool.true_and] at h2
        rw [decide_eq_true h1, h2]; rfl
      rw [if_pos (show nI (F &&& it N k 4) = 0 by rw [z]; rfl)]
      unfold mX12_lacksSo_l45
      have rest : NR T N k (m * 65536 + F * 256 + (F + 1)) (m * 65536 + (F + 1) * 256) := NR.kv fun d h1 h2 => kv_no fun q => by
        have a : kf d = F := by unfold kf; omega
        have b : ks d = d - (m * 65536 + F * 256) := by unfold ks; omega
        have := sb_le q.2.2
        rw [a, b] at this
        omega
      have key := lp_invX (f := fun s : Int32 × Hp => mX12_lacksSo_l45f 433 (nI k) (nI m) (nI (it N k 4)) (nI F) s.1 s.2) (F + 1) (fun i st => ∃ r, st = (nI i, hk σ (rowUp I 448 r) L) ∧ NR T N k (m * 65536 + F * 256) (m * 65536 + F * 256 + i))
        (fun o => (NR T N k (m * 65536 + F * 256) (m * 65536 + (F + 1) * 256) ∧ ∃ r', o = .inl (nI (F + 1), hk σ (rowUp I 448 r') L)) ∨ ∃ h', o = .inr (1, h') ∧ fdI T N σ I L k (m * 65536 + F * 256) (m * 65536 + (F + 1) * 256) h')
        (fun i st hi hQ => by
          obtain ⟨r, rfl, hn⟩ := hQ
          rcases lin_one (σ := σ) (L := L) h hk' hB hm hsb (show i ≤ F by omega) r with ⟨q, r', e⟩ | ⟨q, h', e, hd⟩
          · refine Or.inl ⟨_, e, r', rfl, fun d h1 h2 => ?_⟩
            by_cases z : d < m * 65536 + F * 256 + i
            · exact hn d h1 z
            · rw [show d = m * 65536 + F * 256 + i by omega]; exact q
          · exact Or.inr ⟨_, e, Or.inr ⟨h', rfl, _, by omega, by omega, q, hn, hd⟩⟩)
        (fun st hQ => by
          obtain ⟨r, rfl, hn⟩ := hQ
          refine ⟨_, ?_, Or.inl ⟨hn.tr rest, r, rfl⟩⟩
          show mX12_lacksSo_l45f 433 (nI k) (nI m) (nI (it N k 4)) (nI F) (nI (F + 1)) (hk σ (rowUp I 448 r) L) = _
          unfold mX12_lacksSo_l45f mX12_lacksSo_b133
          rw [if_pos (show nI F < nI (F + 1) from nI_lt (by omega) (by omega)), xts, nI_1]) (i := 0) (s := (nI 0, hk σ (rowUp I 448 r) L)) (Nat.zero_le _) ⟨r, rfl, fun d h1 h2 => by omega⟩
      obtain ⟨o, e, hP⟩ := key
      rcases hP with ⟨q, r', rfl⟩ | ⟨h', rfl, hd⟩
      · exact Or.inl ⟨q, r', e⟩
      · exact Or.inr ⟨h', e, hd⟩
    · have ka : F &&& it N k 4 < 256 := Nat.lt_of_le_of_lt Nat.and_le_left (by omega)
      rw [if_neg (show ¬ nI (F &&& it N k 4) = 0 from fun q => z ((nI_eq (by omega) (by omega)).mp q))]
      refine Or.inl (skip fun q => z ?_)
      apply Nat.eq_of_testBit_eq; intro i
      rw [Nat.testBit_and, Nat.zero_testBit]
      have := q.2 i
      rw [fr2_bit] at this
      revert this
      cases F.testBit i <;> cases (it N k 4).testBit i <;> simp
  · rw [if_neg hm]
    exact Or.inl (skip fun q => hm q.1)
theorem lacksSo_ok {T N : Nat → Nat} (h : MI I T N) {k m : Nat} (hk' : k < N 18) (hB : ∀ o, o < N 18 → I 449 o = nI (bk N o)) (hm : m ≤ T 1) (r : Nat → Int32) :
    (NR T N k (m * 65536) ((m + 1) * 65536) ∧ ∃ r', mX12_lacksSo 433 (nI k) (nI m) (hk σ (rowUp I 448 r) L) = some (0, hk σ (rowUp I 448 r') L)) ∨
    (∃ h', mX12_lacksSo 433 (nI k) (nI m) (hk σ (rowUp I 448 r) L) = some (1, h') ∧ fdI T N σ I L k (m * 65536) ((m + 1) * 65536) h') := by
  have hW := h.2.2.1
  have w1 := hW.1.2.1
  have hp := ev_lt w1
  have n18 := (h.2.2.2.1.bkH hW).1
  have mi : ∀ r, MI (rowUp I 448 r) T N := fun r => h.up (by omega) (by omega) (by omega)
  unfold mX12_lacksSo mX12_lacksSo_l10
  rw [if_pos s433, show (4 : Int32) = nI 4 from rfl, its_n (mi r).2.1 (by omega) (by omega), obind]
  have p1 := Nat.two_pow_pos (T 1)
  have rest : NR T N k (m * 65536 + 2 ^ T 1 * 256) ((m + 1) * 65536) := NR.kv fun d h1 h2 => kv_no fun q => by
    have a : 2 ^ T 1 ≤ kf d := by unfold kf; omega
    have b := sb_le q.2.1
    have c : fr2 T N k < 2 ^ T 1 := Nat.lt_of_le_of_lt (show fr2 T N k ≤ 2 ^ T 1 - 1 from sb_le fun i hi => by
      rw [fr2_bit, Bool.and_eq_true] at hi
      rw [Nat.testBit_two_pow_sub_one]; exact hi.1) (by omega)
    omega
  have key := lp_invX (f := fun s : Int32 × Hp => mX12_lacksSo_l10f 433 (nI k) (nI m) (nI (it N k 4)) s.1 s.2) (2 ^ T 1) (fun i st => ∃ r, st = (nI i, hk σ (rowUp I 448 r) L) ∧ NR T N k (m * 65536) (m * 65536 + i * 256))
    (fun o => (NR T N k (m * 65536) ((m + 1) * 65536) ∧ ∃ r', o = (0, hk σ (rowUp I 448 r') L)) ∨ ∃ h', o = (1, h') ∧ fdI T N σ I L k (m * 65536) ((m + 1) * 65536) h')
    (fun i st hi hQ => by
      obtain ⟨r, rfl, hn⟩ := hQ
      rcases lin_row (σ := σ) (L := L) h hk' hB (show m < 9 by omega) hi r with ⟨q, r', e⟩ | ⟨h', e, c, c1, c2, c3, c4, hd⟩
      · exact Or.inl ⟨_, e, r', rfl, hn.tr q⟩
      · have q1 : m * 65536 ≤ c := Nat.le_trans (Nat.le_add_right _ _) c1
        have q2 : c < (m + 1) * 65536 := by omega
        exact Or.inr ⟨_, e, Or.inr ⟨h', rfl, c, q1, q2, c3, hn.tr c4, hd⟩⟩)
    (fun st hQ => by
      obtain ⟨r, rfl, hn⟩ := hQ
      refine ⟨_, ?_, Or.inl ⟨hn.tr rest, r, rfl⟩⟩
      show mX12_lacksSo_l10f 433 (nI k) (nI m) (nI (it N k 4)) (nI (2 ^ T 1)) (hk σ (rowUp I 448 r) L) = _
      unfold mX12_lacksSo_l10f
      rw [g434, ldT1 (mi r).1, obind, shl1 (by omega), c_nlt (Nat.le_refl _) (by omega), xts]) (i := 0) (s := (nI 0, hk σ (rowUp I 448 r) L)) (Nat.zero_le _) ⟨r, rfl, fun d h1 h2 => by omega⟩
  obtain ⟨o, e, hP⟩ := key
  rcases hP with ⟨q, r', rfl⟩ | ⟨h', rfl, hd⟩
  · exact Or.inl ⟨q, r', e⟩
  · exact Or.inr ⟨h', e, hd⟩
/-- lacks -/
theorem mlacks_ok {T N : Nat → Nat} (h : MI I T N) {k j : Nat} (hk' : k < N 18) (hj : j < 3) :
    ∃ v I2, mX12_lacks 433 (nI k) (nI j) (hk σ I L) = some (v, hk σ I2 L) ∧ FrM I L I2 L ∧ ((NR T N k 0 589824 ∧ v = -2) ∨ ∃ c, c < 589824 ∧ lok T N k c = true ∧ NR T N k 0 c ∧ v = if j = 0 then nI (pc (kf c)) else if j = 1 then nI (kf c) else nI (ks c)) := by
  have hW := h.2.2.1
  have w1 := hW.1.2.1
  have n18 := (h.2.2.2.1.bkH hW).1
  obtain ⟨rb, e1, hB⟩ := mlaysBacks_ok (σ := σ) (L := L) h.2.1 (h.2.2.2.1.bkH hW)
  obtain ⟨I1, hI1⟩ : ∃ I1, I1 = rowUp I 449 rb := ⟨_, rfl⟩
  rw [← hI1] at e1
  have m1 : MI I1 T N := by rw [hI1]; exact h.up (by omega) (by omega) (by omega)
  have fm1 : FrM I L I1 L := by rw [hI1]; exact FrM.upI (a := 449) FrM.rf rb (by unfold scM; omega)
  have hB1 : ∀ o, o < N 18 → I1 449 o = nI (bk N o) := fun o ho => by rw [hI1, rowUp_same]; exact hB o ho
  have hd : decide (0 ≤ (nI k).toInt ∧ (nI k).toInt < (N 18 : Int)) = true := by
    rw [nI_toInt (by omega)]; exact decide_eq_true (by omega)
  have hdj : decide (0 ≤ (nI j).toInt ∧ (nI j).toInt < (3 : Nat)) = true := by
    rw [nI_toInt (by omega)]; exact decide_eq_true (by omega)
  unfold mX12_lacks mX12_lacks_l25
  rw [if_pos s433, misCount_ok h.2.1 n18, obind, bI_if0, hd, if_neg nTF, in_2, hdj, obind, bI_if0, if_neg nTF, e1, obind]
  have ktop : NR T N k ((T 1 + 1) * 65536) 589824 := NR.kv fun d h1 h2 => kv_no fun q => by
    have a : T 1 < d / 65536 := by omega
    have b : pc (kf d) ≤ T 1 := by
      unfold pc
      rw [show (8 : Nat) = T 1 + (8 - T 1) by omega, cntB_add]
      have z : cntB (fun i => (kf d).testBit (T 1 + i)) (8 - T 1) = 0 := by
        rw [cntB_0, ← Bool.not_eq_true, anyB_iff]
        rintro ⟨w, _, h2⟩
        have := q.2.1 _ h2
        rw [fr2_bit, Bool.and_eq_true] at this
        have := of_decide_eq_true this.1
        omega
      have := cntB_le (fun i => (kf d).testBit i) (T 1)
      omega
    have := q.1
    omega
  have key := lp_invX (f := fun s : Int32 × Hp => mX12_lacks_l25f 433 (nI k) (nI j) s.1 s.2) (T 1 + 1) (fun i st => ∃ r, st = (nI i, hk σ (rowUp I1 448 r) L) ∧ NR T N k 0 (i * 65536))
    (fun o => ∃ I2, o.2 = hk σ I2 L ∧ FrM I1 L I2 L ∧ ((NR T N k 0 589824 ∧ o.1 = -2) ∨ ∃ c, c < 589824 ∧ lok T N k c = true ∧ NR T N k 0 c ∧ o.1 = if j = 0 then nI (pc (kf c)) else if j = 1 then nI (kf c) else nI (ks c)))
    (fun i st hi hQ => by
      obtain ⟨r, rfl, hn⟩ := hQ
      have mi : MI (rowUp I1 448 r) T N := m1.up (by omega) (by omega) (by omega)
      have go : mX12_lacks_l25f 433 (nI k) (nI j) (nI i) (hk σ (rowUp I1 448 r) L) = b2 (mX12_lacksSo 433 (nI k) (nI i) (hk σ (rowUp I1 448 r) L)) fun v13 h14 =>
          if v13 = 0 then (some (.inl (nI i + 1, h14))) else (xt (mX12_lacks_b50 433 (nI j) (nI i) h14)) := by
        unfold mX12_lacks_l25f
        rw [g434, ldT1 mi.1, obind, if_neg (show ¬ nI (T 1) < nI i from nI_nlt (by omega) (by omega))]
      rcases lacksSo_ok (σ := σ) (L := L) m1 hk' hB1 (show i ≤ T 1 by omega) r with ⟨q, r', e⟩ | ⟨h', e, c, c1, c2, c3, c4, r', rfl⟩
      · refine Or.inl ⟨(nI (i + 1), hk σ (rowUp I1 448 r') L), ?_, r', rfl, hn.tr q⟩
        show mX12_lacks_l25f 433 (nI k) (nI j) (nI i) (hk σ (rowUp I1 448 r) L) = _
        rw [go, e, b2s, if_pos rfl, nI_1]
      · have ei : pc (kf c) = i := by
          have c3' := c3
          unfold lok at c3'
          rw [Bool.and_eq_true] at c3'
          have := (kv_iff.mp c3'.1).1
          omega
        have mi2 : MI (rowUp (rowUp I1 448 r') 433 (updA (updA (I1 433) 31 (nI (kf c))) 32 (nI (ks c)))) T N := (m1.up (by omega) (by omega) (by omega)).up (by omega) (by omega) (by omega)
        refine Or.inr ⟨((if j = 0 then nI (pc (kf c)) else if j = 1 then nI (kf c) else nI (ks c)), hk σ (rowUp (rowUp I1 448 r') 433 (updA (updA (I1 433) 31 (nI (kf c))) 32 (nI (ks c)))) L), ?_, _, rfl, ?_, Or.inr ⟨c, by omega, c3, hn.tr c4, rfl⟩⟩
        · show mX12_lacks_l25f 433 (nI k) (nI j) (nI i) (hk σ (rowUp I1 448 r) L) = _
          rw [go, e, b2s, if_neg (show ¬ (1 : Int32) = 0 by decide)]
          unfold mX12_lacks_b50
          rw [g434, ldT1 mi2.1, obind, if_neg (show ¬ nI (T 1) < nI i from nI_nlt (by omega) (by omega)), c_0 (by omega), c_1 (by omega)]
          by_cases j0 : j = 0
          · rw [if_pos j0, if_pos j0, xts, ei]
          · rw [if_neg j0, if_neg j0]
            by_cases j1 : j = 1
            · rw [if_pos j1, if_pos j1, gI_ok s433, obind, hpI_hk', rowUp_same, updA_ne _ _ (by omega), updA_same, xts]
            · rw [if_neg j1, if_neg j1, gI_ok s433, obind, hpI_hk', rowUp_same, updA_same, xts]
        · have f1 : FrM I1 L (rowUp I1 448 r') L := FrM.upI (a := 448) FrM.rf r' (by unfold scM; omega)
          refine ⟨fun a ha h4 => ?_, fun j h1 h2 => ?_, fun j _ _ => rfl⟩
          · rw [rowUp_at, if_neg h4]; exact f1.1 a ha h4
          · rw [rowUp_same, updA_ne _ _ h2, updA_ne _ _ h1])
    (fun st hQ => by
      obtain ⟨r, rfl, hn⟩ := hQ
      have mi : MI (rowUp I1 448 r) T N := m1.up (by omega) (by omega) (by omega)
      refine ⟨(-2, hk σ (rowUp I1 448 r) L), ?_, _, rfl, FrM.upI (a := 448) FrM.rf r (by unfold scM; omega), Or.inl ⟨hn.tr ktop, rfl⟩⟩
      show mX12_lacks_l25f 433 (nI k) (nI j) (nI (T 1 + 1)) (hk σ (rowUp I1 448 r) L) = _
      unfold mX12_lacks_l25f mX12_lacks_b50
      rw [g434, ldT1 mi.1, obind, if_pos (show nI (T 1) < nI (T 1 + 1) from nI_lt (by omega) (by omega)), g434, ldT1 mi.1, obind, if_pos (show nI (T 1) < nI (T 1 + 1) from nI_lt (by omega) (by omega)), xts]) (i := 0) (s := (nI 0, hk σ (rowUp I1 448 (I1 448)) L)) (Nat.zero_le _) ⟨_, rfl, fun d h1 h2 => by omega⟩
  obtain ⟨⟨v, h'⟩, e, I2, h2, f2, hP⟩ := key
  rw [rowUp_id] at e
  have h2 : h' = hk σ I2 L := h2
  subst h2
  have fmt : FrM I L I2 L := ⟨fun a ha h4 => by rw [(f2.1 a ha h4).1, (fm1.1 a ha h4).1]; exact ⟨rfl, rfl⟩, fun j h1 h2 => by rw [f2.2.1 j h1 h2, fm1.2.1 j h1 h2], fun j _ _ => rfl⟩
  exact ⟨v, I2, e, fmt, hP⟩
theorem q_lacks {T N : Nat → Nat} (h : CR σ I L T N) (hm : MI I T N) (hTh : Th I) (x y : Int32) :
    ∃ v I1 L1 I2, mX11_lacks 100 x y (hk σ I L) = some (v, hk σ I1 L1) ∧ mX12_lacks 433 x y (hk σ I1 L1) = some (v, hk σ I2 L1) ∧ FrC I L I1 L1 ∧ FrM I1 L1 I2 L1 := by
  have hW := h.2.1
  have h18 := (h.2.2.1.bkH hW).1
  unfold mX11_lacks
  rw [if_pos s100, cisCount_ok h, obind, bI_if0]
  rcases ixn x (N 18) (by omega) with ⟨k, hk', rfl, hd⟩ | hd
  · rw [hd, if_neg nTF]
    rcases ixn y 3 (by omega) with ⟨j, hj, rfl, hdy⟩ | hdy
    · obtain ⟨b, I1, L1, e1, fC, hb⟩ := findLack_ok h hTh hk'
      obtain ⟨v, I2, e2, fM, hv⟩ := mlacks_ok (σ := σ) (L := L1) (hm.frC fC) hk' hj
      rw [if_neg (nI_pos (show j < 2 ^ 31 by omega)), if_neg (n2_nlt hj), e1, b2s, bI_if0, c_0 (by omega), c_1 (by omega)]
      rcases hb with ⟨rfl, c, c1, c2, c3, c4, c5⟩ | ⟨rfl, c1⟩
      · rcases hv with ⟨v1, _⟩ | ⟨c', d1, d2, d3, rfl⟩
        · rw [v1 c (Nat.zero_le _) c1] at c2; cases c2
        · have ec : c' = c := by
            rcases Nat.lt_trichotomy c c' with q | q | q
            · rw [d3 c (Nat.zero_le _) q] at c2; cases c2
            · exact q.symm
            · rw [c3 c' q] at d2; cases d2
          subst ec
          refine ⟨_, I1, L1, I2, ?_, e2, fC, fM⟩
          rw [if_neg nTF]
          by_cases j0 : j = 0
          · rw [if_pos j0, if_pos j0, gPick, gI_o 2 (n := 5) rfl, obind, c4, cbits_ok _ (kf_lt _), obind]
          · rw [if_neg j0, if_neg j0]
            by_cases j1 : j = 1
            · rw [if_pos j1, if_pos j1, gPick, gI_o 2 (n := 5) rfl, obind, c4]
            · rw [if_neg j1, if_neg j1, gPick, gI_o 3 (n := 5) rfl, obind, c5]
      · rcases hv with ⟨_, rfl⟩ | ⟨c', d1, d2, _, _⟩
        · exact ⟨-2, I1, L1, I2, by rw [if_pos rfl], e2, fC, fM⟩
        · rw [c1 c' d1] at d2; cases d2
    · refine ⟨-1, I, L, I, ?_, ?_, FrC.rf, FrM.rf⟩
      · rcases ix_cases y with hy | ⟨j, hj, rfl⟩
        · rw [if_pos hy]
        · rw [nI_toInt hj] at hdy
          have := of_decide_eq_false hdy
          rw [if_neg (nI_pos hj), if_pos (show (2 : Int32) < nI j from nI_lt (show 2 < j by omega) hj)]
      · unfold mX12_lacks
        rw [if_pos s433, misCount_ok hm.2.1 h18, obind, bI_if0, hd, if_neg nTF, in_2, obind, bI_if0, hdy, if_pos rfl]
  · refine ⟨-1, I, L, I, ?_, ?_, FrC.rf, FrM.rf⟩
    · rw [hd, if_pos rfl]
    · unfold mX12_lacks
      rw [if_pos s433, misCount_ok hm.2.1 h18, obind, bI_if0, hd, if_pos rfl]
end LackM
