section MFinds
variable {σ : Sg} {I I' J I1 I2 : Nat → Nat → Int32} {L L' L1 L2 : Nat → Nat → Int64}
/-- what the model has found, as far as pairs below c -/
def FM (T N : Nat → Nat) (k : Nat) (wn : Bool) (tg : Int32) (I : Nat → Nat → Int32) (c : Nat) (ρ : Nat → Int32) : Prop :=
  (∀ j, j ≠ 31 → j ≠ 32 → ρ j = I 433 j) ∧ ∀ d, d < c → kq T N k wn d = true → nI (cntB (kq T N k wn) d) = tg → ρ 31 = nI (kf d) ∧ ρ 32 = nI (ks d)
theorem FM.gap {T N : Nat → Nat} {k : Nat} {wn : Bool} {tg : Int32} {c e : Nat} {ρ : Nat → Int32} (h : FM T N k wn tg I c ρ) (hz : ∀ d, c ≤ d → d < e → kv (fre T N) d = false) : FM T N k wn tg I e ρ := by
  refine ⟨h.1, fun d hd hq ht => ?_⟩
  by_cases q : d < c
  · exact h.2 d q hq ht
  · unfold kq at hq
    rw [hz d (by omega) hd] at hq
    cases hq
theorem kq_gap {T N : Nat → Nat} {k : Nat} {wn : Bool} {n m : Nat} (h : n ≤ m) (hz : ∀ d, n ≤ d → d < m → kv (fre T N) d = false) : cntB (kq T N k wn) m = cntB (kq T N k wn) n := cnt_gap h fun d h1 h2 => by
  unfold kq; rw [hz d h1 h2]; rfl
theorem fin_one {T N : Nat → Nat} {k : Nat} {wn : Bool} (tg : Int32) (h : MI I T N) (h3 : P3 I) (hw : WW T N k I) {m F S : Nat} (hm : pc F = m) (hF : sb F (fre T N)) (hS : S ≤ F) (ρ : Nat → Int32) (hρ : FM T N k wn tg I (m * 65536 + F * 256 + S) ρ) :
    ∃ ρ', mX12_findsProofs_l64f 433 (bI wn) tg (nI m) (nI F) (nI (cntB (kq T N k wn) (m * 65536 + F * 256 + S))) (nI S) (hk σ (rowUp I 433 ρ) L) = some (.inl (nI (cntB (kq T N k wn) (m * 65536 + F * 256 + (S + 1))), nI (S + 1), hk σ (rowUp I 433 ρ') L)) ∧ FM T N k wn tg I (m * 65536 + F * 256 + (S + 1)) ρ' := by
  have hW := h.2.2.1
  have hFb := fre_lt (N := N) hW
  have hFl := sb_le hF
  have mi : MI (rowUp I 433 ρ) T N := h.up (by omega) (by omega) (by omega)
  have k1 := kf_at (m := m) (F := F) (S := S) (by omega) (by omega)
  have k2 := ks_at (m := m) (F := F) (S := S) (by omega) (by omega)
  have cb := kq_cnt (T := T) (N := N) (k := k) (wn := wn) (m * 65536 + F * 256 + S)
  have e1 : m * 65536 + F * 256 + (S + 1) = (m * 65536 + F * 256 + S) + 1 := by omega
  rw [e1]
  obtain ⟨c, hc⟩ : ∃ c, c = m * 65536 + F * 256 + S := ⟨_, rfl⟩
  rw [← hc] at hρ k1 k2 cb ⊢
  have skip : kq T N k wn c = false → FM T N k wn tg I (c + 1) ρ := fun q => ⟨hρ.1, fun d hd hq ht => by
    by_cases e : d = c
    · subst e; rw [q] at hq; cases hq
    · exact hρ.2 d (by omega) hq ht⟩
  unfold mX12_findsProofs_l64f mX12_findsProofs_b114 mX12_findsProofs_b117
  rw [if_neg (show ¬ nI F < nI S from nI_nlt hS (by omega)), nx_not (by omega), nI_1, nI_1, cntS]
  by_cases hs : sb S F
  · rw [if_pos (show nI (S ^^^ (S &&& F)) = 0 by rw [sb_iff.mpr hs]; rfl), misProof_ok mi (h3.up ρ (by omega)) (hw.up ρ (by omega) (by omega)) wn hF hs, obind, bI_if0]
    have hq : kq T N k wn c = pf T N k wn F S := by
      unfold kq
      rw [k1, k2, kv_iff.mpr ⟨by rw [k1, hm]; omega, by rw [k1]; exact hF, by rw [k1, k2]; exact hs⟩, Bool.true_and]
    rw [← hq]
    cases q : kq T N k wn c
    · rw [if_pos rfl, if_neg (by decide), Nat.add_zero]
      exact ⟨ρ, rfl, skip q⟩
    · rw [if_neg nTF, if_pos rfl]
      by_cases ht : nI (cntB (kq T N k wn) c) = tg
      · rw [if_pos ht, sI_ok s433, obind, setI_hk, rowUp_two, hpI_hk', rowUp_same, sI_ok s433, obind, setI_hk, rowUp_two, hpI_hk', rowUp_same]
        refine ⟨_, rfl, fun j h1 h2 => ?_, fun d hd hq2 ht2 => ?_⟩
        · rw [updA_ne _ _ h2, updA_ne _ _ h1]; exact hρ.1 j h1 h2
        · have ed : d = c := by
            have a := kq_cnt (T := T) (N := N) (k := k) (wn := wn) d
            rw [← ht] at ht2
            exact cnt_inj hq2 q ((nI_eq (by omega) (by omega)).mp ht2)
          subst ed
          rw [updA_same, updA_ne _ _ (by omega), updA_same, k1, k2]
          exact ⟨rfl, rfl⟩
      · rw [if_neg ht]
        refine ⟨ρ, rfl, hρ.1, fun d hd hq2 ht2 => ?_⟩
        by_cases e : d = c
        · subst e; exact absurd ht2 ht
        · exact hρ.2 d (by omega) hq2 ht2
  · rw [if_neg (show ¬ nI (S ^^^ (S &&& F)) = 0 from fun z => hs (sb_iff.mp (by
      have hb : S ^^^ (S &&& F) < 256 := Nat.xor_lt_two_pow (n := 8) (by omega) (Nat.lt_of_le_of_lt Nat.and_le_left (by omega))
      exact (nI_eq (by omega) (by omega)).mp z)))]
    have q : kq T N k wn c = false := by
      unfold kq
      rw [kv_no fun z => hs (by have := z.2.2; rw [k1, k2] at this; exact this)]; rfl
    rw [q, if_neg (by decide), Nat.add_zero]
    exact ⟨ρ, rfl, skip q⟩
theorem fin_row {T N : Nat → Nat} {k : Nat} {wn : Bool} (tg : Int32) (h : MI I T N) (h3 : P3 I) (hw : WW T N k I) {m F : Nat} (hm9 : m < 9) (hF : F < 2 ^ T 1) (ρ : Nat → Int32) (hρ : FM T N k wn tg I (m * 65536 + F * 256) ρ) :
    ∃ ρ', mX12_findsProofs_l25f 433 (bI wn) tg (nI m) (nI (cntB (kq T N k wn) (m * 65536 + F * 256))) (nI F) (hk σ (rowUp I 433 ρ) L) = some (.inl (nI (cntB (kq T N k wn) (m * 65536 + (F + 1) * 256)), nI (F + 1), hk σ (rowUp I 433 ρ') L)) ∧ FM T N k wn tg I (m * 65536 + (F + 1) * 256) ρ' := by
  have hW := h.2.2.1
  have w1 := hW.1.2.1
  have hFb := fre_lt (N := N) hW
  have hp := ev_lt w1
  have hk8 := knF_lt N
  have mi : ∀ ρ, MI (rowUp I 433 ρ) T N := fun ρ => h.up (by omega) (by omega) (by omega)
  have N4 : ∀ f, f < 8 → N f ≤ 4 := fun f hf => (h.2.2.2.1.1 f hf).1
  have dead : ¬ (pc F = m ∧ sb F (fre T N)) → ∀ d, m * 65536 + F * 256 ≤ d → d < m * 65536 + (F + 1) * 256 → kv (fre T N) d = false := fun q d h1 h2 => kv_no fun z => q (by
    have a : kf d = F := by unfold kf; omega
    have b : d / 65536 = m := by omega
    rw [a, b] at z
    exact ⟨z.1, z.2.1⟩)
  have skip : ¬ (pc F = m ∧ sb F (fre T N)) → ∃ ρ', mX12_findsProofs_b123 433 (bI wn) tg (nI (cntB (kq T N k wn) (m * 65536 + F * 256))) (nI m) (nI F) (hk σ (rowUp I 433 ρ) L) = some (.inl (nI (cntB (kq T N k wn) (m * 65536 + (F + 1) * 256)), nI (F + 1), hk σ (rowUp I 433 ρ') L)) ∧ FM T N k wn tg I (m * 65536 + (F + 1) * 256) ρ' := fun q => by
    unfold mX12_findsProofs_b123
    rw [nI_1, kq_gap (k := k) (wn := wn) (show m * 65536 + F * 256 ≤ m * 65536 + (F + 1) * 256 by omega) (dead q)]
    exact ⟨ρ, rfl, hρ.gap (dead q)⟩
  have pb := pc_le F
  unfold mX12_findsProofs_l25f
  rw [g434, ldT1 (mi ρ).1, obind, shl1 (by omega), c_lt hF (by omega), mbits_n (by omega), obind, c_eqd (by omega) (by omega)]
  by_cases hm : pc F = m
  · rw [if_pos hm, knownFacts_ok (mi ρ).2.1 N4, obind, nx_and]
    by_cases z : F &&& knF N = 0
    · have hsb : sb F (fre T N) := fun i hi => by
        rw [fre_bit]
        have h1 : i < T 1 := by
          cases Nat.lt_or_ge i (T 1) with
          | inl q => exact q
          | inr q => rw [Nat.testBit_lt_two_pow (Nat.lt_of_lt_of_le hF (Nat.pow_le_pow_right (by omega) q))] at hi; cases hi
        have h2 := congrArg (fun x => x.testBit i) z
        simp only [Nat.testBit_and, Nat.zero_testBit] at h2
        rw [hi, Bool.true_and] at h2
        rw [decide_eq_true h1, h2]; rfl
      have hFl := sb_le hsb
      rw [if_pos (show nI (F &&& knF N) = 0 by rw [z]; rfl)]
      unfold mX12_findsProofs_l64
      obtain ⟨o, e, ρ', rfl, hr'⟩ := lp_inv (f := fun s : Int32 × Int32 × Hp => mX12_findsProofs_l64f 433 (bI wn) tg (nI m) (nI F) s.1 s.2.1 s.2.2) (F + 1) (fun i st => ∃ ρ, st = (nI (cntB (kq T N k wn) (m * 65536 + F * 256 + i)), nI i, hk σ (rowUp I 433 ρ) L) ∧ FM T N k wn tg I (m * 65536 + F * 256 + i) ρ)
        (fun o => ∃ ρ', o = .inl (nI (cntB (kq T N k wn) (m * 65536 + F * 256 + (F + 1))), nI (F + 1), hk σ (rowUp I 433 ρ') L) ∧ FM T N k wn tg I (m * 65536 + F * 256 + (F + 1)) ρ')
        (fun i st hi hQ => by
          obtain ⟨ρ, rfl, hρ⟩ := hQ
          obtain ⟨ρ', e, hr⟩ := fin_one (σ := σ) (L := L) tg h h3 hw hm hsb (show i ≤ F by omega) ρ hρ
          exact ⟨_, e, ρ', rfl, hr⟩)
        (fun st hQ => by
          obtain ⟨ρ, rfl, hρ⟩ := hQ
          refine ⟨_, ?_, ρ, rfl, hρ⟩
          show mX12_findsProofs_l64f 433 (bI wn) tg (nI m) (nI F) (nI (cntB (kq T N k wn) (m * 65536 + F * 256 + (F + 1)))) (nI (F + 1)) (hk σ (rowUp I 433 ρ) L) = _
          unfold mX12_findsProofs_l64f mX12_findsProofs_b123
          rw [if_pos (show nI F < nI (F + 1) from nI_lt (by omega) (by omega)), xts, nI_1]) (s := (nI (cntB (kq T N k wn) (m * 65536 + F * 256)), 0, hk σ (rowUp I 433 ρ) L)) ⟨ρ, by rw [Nat.add_zero]; rfl, by rw [Nat.add_zero]; exact hρ⟩
      have rest : ∀ d, m * 65536 + F * 256 + (F + 1) ≤ d → d < m * 65536 + (F + 1) * 256 → kv (fre T N) d = false := fun d h1 h2 => kv_no fun q => by
        have a : kf d = F := by unfold kf; omega
        have b : ks d = d - (m * 65536 + F * 256) := by unfold ks; omega
        have := sb_le q.2.2
        rw [a, b] at this
        omega
      rw [kq_gap (k := k) (wn := wn) (show m * 65536 + F * 256 + (F + 1) ≤ m * 65536 + (F + 1) * 256 by omega) rest]
      exact ⟨ρ', e, hr'.gap rest⟩
    · have ka : F &&& knF N < 256 := Nat.lt_of_le_of_lt Nat.and_le_left (by omega)
      rw [if_neg (show ¬ nI (F &&& knF N) = 0 from fun q => z ((nI_eq (by omega) (by omega)).mp q))]
      refine skip fun q => z ?_
      apply Nat.eq_of_testBit_eq; intro i
      rw [Nat.testBit_and, Nat.zero_testBit]
      have := q.2 i
      rw [fre_bit] at this
      revert this
      cases F.testBit i <;> cases (knF N).testBit i <;> simp
  · rw [if_neg hm]
    exact skip fun q => hm q.1
/-- findsProofs -/
theorem finds_ok {T N : Nat → Nat} (h : MI I T N) (h3 : P3 I) {k : Nat} (hk' : k < N 18) (wn : Bool) (tg : Int32) :
    ∃ I2, mX12_findsProofs 433 (nI k) (bI wn) tg (hk σ I L) = some (nI (cntB (kq T N k wn) 589824), hk σ I2 L) ∧ FrM I L I2 L ∧ ∀ d, d < 589824 → kq T N k wn d = true → nI (cntB (kq T N k wn) d) = tg → I2 433 31 = nI (kf d) ∧ I2 433 32 = nI (ks d) := by
  have hW := h.2.2.1
  have w1 := hW.1.2.1
  have hFb := fre_lt (N := N) hW
  have hp := ev_lt w1
  obtain ⟨ra, rb, e3, hy⟩ := laysWays_ok (σ := σ) (L := L) h h3 hk'
  obtain ⟨I1, hI1⟩ : ∃ I1, I1 = rowUp (rowUp I 451 ra) 452 rb := ⟨_, rfl⟩
  rw [← hI1] at e3
  have m1 : MI I1 T N := by rw [hI1]; exact (h.up (by omega) (by omega) (by omega)).up (by omega) (by omega) (by omega)
  have p1 : P3 I1 := by rw [hI1]; exact (h3.up _ (by omega)).up _ (by omega)
  have ww : WW T N k I1 := fun x hx => by
    rw [hI1, rowUp_same, rowUp_at, if_neg (show ¬ 451 = 452 by decide), rowUp_same]
    exact hy x (Nat.zero_le _) hx
  have mi : ∀ ρ, MI (rowUp I1 433 ρ) T N := fun ρ => m1.up (by omega) (by omega) (by omega)
  have f433 : I1 433 = I 433 := by rw [hI1, rowUp_at, if_neg (by decide), rowUp_at, if_neg (by decide)]
  -- one size
  have size : ∀ m ρ, m ≤ T 1 → FM T N k wn tg I1 (m * 65536) ρ → ∃ ρ', mX12_findsProofs_l11f 433 (bI wn) tg (nI (cntB (kq T N k wn) (m * 65536))) (nI m) (hk σ (rowUp I1 433 ρ) L) = some (.inl (nI (cntB (kq T N k wn) ((m + 1) * 65536)), nI (m + 1), hk σ (rowUp I1 433 ρ') L)) ∧ FM T N k wn tg I1 ((m + 1) * 65536) ρ' := by
    intro m ρ hm hρ
    unfold mX12_findsProofs_l11f mX12_findsProofs_l25
    rw [g434, ldT1 (mi ρ).1, obind, if_neg (show ¬ nI (T 1) < nI m from nI_nlt hm (by omega))]
    obtain ⟨o, e, ρ', rfl, hr'⟩ := lp_inv (f := fun s : Int32 × Int32 × Hp => mX12_findsProofs_l25f 433 (bI wn) tg (nI m) s.1 s.2.1 s.2.2) (2 ^ T 1) (fun i st => ∃ ρ, st = (nI (cntB (kq T N k wn) (m * 65536 + i * 256)), nI i, hk σ (rowUp I1 433 ρ) L) ∧ FM T N k wn tg I1 (m * 65536 + i * 256) ρ)
      (fun o => ∃ ρ', o = .inl (nI (cntB (kq T N k wn) (m * 65536 + 2 ^ T 1 * 256)), nI (m + 1), hk σ (rowUp I1 433 ρ') L) ∧ FM T N k wn tg I1 (m * 65536 + 2 ^ T 1 * 256) ρ')
      (fun i st hi hQ => by
        obtain ⟨ρ, rfl, hρ⟩ := hQ
        obtain ⟨ρ', e, hr⟩ := fin_row (σ := σ) (L := L) tg m1 p1 ww (show m < 9 by omega) hi ρ hρ
        exact ⟨_, e, ρ', rfl, hr⟩)
      (fun st hQ => by
        obtain ⟨ρ, rfl, hρ⟩ := hQ
        refine ⟨_, ?_, ρ, rfl, hρ⟩
        show mX12_findsProofs_l25f 433 (bI wn) tg (nI m) (nI (cntB (kq T N k wn) (m * 65536 + 2 ^ T 1 * 256))) (nI (2 ^ T 1)) (hk σ (rowUp I1 433 ρ) L) = _
        unfold mX12_findsProofs_l25f
        rw [g434, ldT1 (mi ρ).1, obind, shl1 (by omega), c_nlt (Nat.le_refl _) (by omega), xts, nI_1]) (s := (nI (cntB (kq T N k wn) (m * 65536)), 0, hk σ (rowUp I1 433 ρ) L)) ⟨ρ, by rw [Nat.zero_mul, Nat.add_zero]; rfl, by rw [Nat.zero_mul, Nat.add_zero]; exact hρ⟩
    have p1 := Nat.two_pow_pos (T 1)
    have rest : ∀ d, m * 65536 + 2 ^ T 1 * 256 ≤ d → d < (m + 1) * 65536 → kv (fre T N) d = false := fun d h1 h2 => kv_no fun q => by
      have a : 2 ^ T 1 ≤ kf d := by unfold kf; omega
      have b := sb_le q.2.1
      have c : fre T N < 2 ^ T 1 := Nat.lt_of_le_of_lt (show fre T N ≤ 2 ^ T 1 - 1 from sb_le fun i hi => by
        rw [fre_bit, Bool.and_eq_true] at hi
        rw [Nat.testBit_two_pow_sub_one]; exact hi.1) (by omega)
      omega
    rw [kq_gap (k := k) (wn := wn) (show m * 65536 + 2 ^ T 1 * 256 ≤ (m + 1) * 65536 by omega) rest]
    exact ⟨ρ', e, hr'.gap rest⟩
  unfold mX12_findsProofs mX12_findsProofs_l11
  rw [if_pos s433, e3, obind]
  obtain ⟨o, e, ρ', rfl, hr'⟩ := lp_inv (f := fun s : Int32 × Int32 × Hp => mX12_findsProofs_l11f 433 (bI wn) tg s.1 s.2.1 s.2.2) (T 1 + 1) (fun i st => ∃ ρ, st = (nI (cntB (kq T N k wn) (i * 65536)), nI i, hk σ (rowUp I1 433 ρ) L) ∧ FM T N k wn tg I1 (i * 65536) ρ)
    (fun o => ∃ ρ', o = (nI (cntB (kq T N k wn) ((T 1 + 1) * 65536)), hk σ (rowUp I1 433 ρ') L) ∧ FM T N k wn tg I1 ((T 1 + 1) * 65536) ρ')
    (fun i st hi hQ => by
      obtain ⟨ρ, rfl, hρ⟩ := hQ
      obtain ⟨ρ', e, hr⟩ := size i ρ (by omega) hρ
      exact ⟨_, e, ρ', rfl, hr⟩)
    (fun st hQ => by
      obtain ⟨ρ, rfl, hρ⟩ := hQ
      refine ⟨_, ?_, ρ, rfl, hρ⟩
      show mX12_findsProofs_l11f 433 (bI wn) tg (nI (cntB (kq T N k wn) ((T 1 + 1) * 65536))) (nI (T 1 + 1)) (hk σ (rowUp I1 433 ρ) L) = _
      unfold mX12_findsProofs_l11f
      rw [g434, ldT1 (mi ρ).1, obind, if_pos (show nI (T 1) < nI (T 1 + 1) from nI_lt (by omega) (by omega)), xts]) (s := (0, 0, hk σ I1 L)) ⟨I1 433, by rw [rowUp_id, Nat.zero_mul]; rfl, fun j _ _ => rfl, fun d hd => by omega⟩
  have rest : ∀ d, (T 1 + 1) * 65536 ≤ d → d < 589824 → kv (fre T N) d = false := fun d h1 h2 => kv_no fun q => by
    have a : T 1 < d / 65536 := by omega
    have b : pc (kf d) ≤ T 1 := by
      unfold pc
      rw [show (8 : Nat) = T 1 + (8 - T 1) by omega, cntB_add]
      have z : cntB (fun i => (kf d).testBit (T 1 + i)) (8 - T 1) = 0 := by
        rw [cntB_0, ← Bool.not_eq_true, anyB_iff]
        rintro ⟨w, _, h2⟩
        have := fre_T q.2.1 h2
        omega
      have := cntB_le (fun i => (kf d).testBit i) (T 1)
      omega
    have := q.1
    omega
  rw [kq_gap (k := k) (wn := wn) (show (T 1 + 1) * 65536 ≤ 589824 by omega) rest]
  have fm := hr'.gap rest
  refine ⟨rowUp I1 433 ρ', e, ⟨fun a ha h4 => ?_, fun j h1 h2 => ?_, fun j _ _ => rfl⟩, fun d hd hq ht => by rw [rowUp_same]; exact fm.2 d hd hq ht⟩
  · have n1 : a ≠ 451 := fun z => ha (by unfold scM; omega)
    have n2 : a ≠ 452 := fun z => ha (by unfold scM; omega)
    rw [rowUp_at, if_neg h4, hI1, rowUp_at, if_neg n2, rowUp_at, if_neg n1]
    exact ⟨rfl, rfl⟩
  · rw [rowUp_same, fm.1 j h1 h2, f433]
end MFinds
