section Picks
variable {σ : Sg} {I I' J I1 I2 : Nat → Nat → Int32} {L L' L1 L2 : Nat → Nat → Int64}
/-- the next set within another -/
def nsb (x F : Nat) : Nat := (256 + x - F) &&& F
def okN (F x : Nat) : Bool := if x &&& F = x then (if x = F then decide (nsb x F = 0) else decide (x < nsb x F) && (decide (nsb x F &&& F = nsb x F) && allB (fun i => !decide ((x + 1 + i) &&& F = x + 1 + i)) (nsb x F - x - 1))) else true
theorem okN_all : allB (fun F => allB (okN F) 256) 256 = true := by decide +kernel
theorem nsb_I {x F : Nat} (hF : F < 256) (hx : x < 256) : (nI x - nI F) &&& nI F = nI (nsb x F) := by
  have e : nI x - nI F = nI (2 ^ 8 * 16777215 + (256 + x - F)) := by
    have a : nI (2 ^ 8 * 16777215 + (256 + x - F)) + nI F = nI x := by
      rw [nI_add, show 2 ^ 8 * 16777215 + (256 + x - F) + F = 4294967296 + x by omega, ← nI_add, show nI 4294967296 = 0 from rfl, Int32.zero_add]
    rw [← a, Int32.add_sub_cancel]
  rw [e, nx_and, and_drop (k := 8) (by omega)]
  rfl
theorem sb_and' {a b : Nat} (h : a &&& b = a) : sb a b := fun i hi => by
  rw [← h, Nat.testBit_and, Bool.and_eq_true] at hi; exact hi.2
theorem nsb_top {F : Nat} (hF : F < 256) : nsb F F = 0 := by
  have h := allB_iff.mp (allB_iff.mp okN_all F hF) F hF
  unfold okN at h
  rw [if_pos (Nat.and_self F), if_pos rfl] at h
  exact of_decide_eq_true h
theorem nsb_up {x F : Nat} (hF : F < 256) (hs : sb x F) (hne : x ≠ F) : x < nsb x F ∧ sb (nsb x F) F ∧ ∀ z, x < z → z < nsb x F → ¬ sb z F := by
  have hx := sb_le hs
  have h := allB_iff.mp (allB_iff.mp okN_all F hF) x (by omega)
  unfold okN at h
  rw [if_pos (sb_and hs), if_neg hne, Bool.and_eq_true, Bool.and_eq_true] at h
  refine ⟨of_decide_eq_true h.1, sb_and' (of_decide_eq_true h.2.1), fun z h1 h2 hz => ?_⟩
  have := allB_iff.mp h.2.2 (z - x - 1) (by omega)
  rw [show x + 1 + (z - x - 1) = z by omega, sb_and hz, decide_eq_true rfl] at this
  cases this
theorem pc_sb {a b : Nat} (h : sb a b) : pc a ≤ pc b := cntB_leq fun i _ hi => h i hi
/-- how far the picks have come: pairs below e are through -/
def PK (F0 : Nat) (ρ : Nat → Int32) (e : Nat) : Prop :=
  ρ 0 = nI F0 ∧ ((e = 0 ∧ ρ 1 = 0 ∧ ρ 2 = 0 ∧ ρ 3 = 0 ∧ ρ 4 = 0) ∨ ∃ c, e = c + 1 ∧ kv F0 c = true ∧ ρ 1 = nI (c / 65536) ∧ ρ 2 = nI (kf c) ∧ ρ 3 = nI (ks c) ∧ ρ 4 = 1)
theorem s425 {I : Nat → Nat → Int32} : (hpS (hk σ I L) 425).1 = 4 := rfl
theorem kv_top {F0 : Nat} {d : Nat} (h : (pc F0 + 1) * 65536 ≤ d) : kv F0 d = false := kv_no fun q => by
  have a := pc_sb q.2.1
  have b := q.1
  omega
/-- nextFacts: places of rows, and how far it has come -/
def ps (m F : Nat) : Nat := m * 65536 + F * 256
theorem ps_eq (m F : Nat) : ps m F = m * 65536 + F * 256 := rfl
def qp (m F : Nat) : Nat := m * 256 + F
theorem qp_eq (m F : Nat) : qp m F = m * 256 + F := rfl
def NFi (F0 c : Nat) (σ : Sg) (I : Nat → Nat → Int32) (L : Nat → Nat → Int64) (st : Int32 × Hp) : Prop :=
  ∃ i m F ρ, st = (nI i, hk σ (rowUp I 425 ρ) L) ∧ ρ 0 = nI F0 ∧ ρ 1 = nI m ∧ ρ 2 = nI F ∧ ρ 3 = 0 ∧ ρ 4 = 1 ∧ m ≤ pc F0 ∧ sb F F0 ∧ (∀ d, c < d → d < ps m (F + 1) → kv F0 d = false) ∧ c < ps m (F + 1) ∧ i ≤ qp m F
def NFo (F0 c : Nat) (σ : Sg) (I : Nat → Nat → Int32) (L : Nat → Nat → Int64) (o : Option (Int32 × Hp)) : Prop :=
  ∃ v ρ', o = some (v, hk σ (rowUp I 425 ρ') L) ∧ ((v = 1 ∧ ∃ g, c < g ∧ g < 589824 ∧ kv F0 g = true ∧ (∀ d, c < d → d < g → kv F0 d = false) ∧ PK F0 ρ' (g + 1)) ∨ (v = 0 ∧ ∀ d, c < d → d < 589824 → kv F0 d = false))
def NFm (st : Int32 × Hp) : Nat := 2304 - qp (ixN (hpI st.2 425 1)) (ixN (hpI st.2 425 2))
theorem NFm_at {i : Int32} {ρ : Nat → Int32} {m F : Nat} (h1 : ρ 1 = nI m) (h2 : ρ 2 = nI F) (hm : m < 2147483648) (hF : F < 2147483648) : NFm (i, hk σ (rowUp I 425 ρ) L) = 2304 - qp m F := by
  unfold NFm
  rw [hpI_hk, hpI_hk, rowUp_same, h1, h2, ixN_nI hm, ixN_nI hF]
theorem nf_tail {F0 c i m F m' F' : Nat} (hFr : F0 < 256) {ρ ρ' : Nat → Int32} (h1 : ρ 1 = nI m) (h2 : ρ 2 = nI F) (hm : m ≤ pc F0) (hF : F < 256) (hi : i ≤ qp m F)
    (a0 : ρ' 0 = nI F0) (a1 : ρ' 1 = nI m') (a2 : ρ' 2 = nI F') (a3 : ρ' 3 = 0) (a4 : ρ' 4 = 1) (b1 : m' ≤ pc F0 + 1) (b2 : sb F' F0) (b3 : m' ≤ pc F0 ∨ F' = 0) (b4 : ∀ d, c < d → d < ps m' F' → kv F0 d = false) (b5 : c < ps m' F') (b6 : qp m F < qp m' F') :
    (∃ t, mX3_nextFacts_b44 425 (nI i) (hk σ (rowUp I 425 ρ') L) = some (.inl t) ∧ NFi F0 c σ I L t ∧ NFm t < NFm (nI i, hk σ (rowUp I 425 ρ) L)) ∨ ∃ o, mX3_nextFacts_b44 425 (nI i) (hk σ (rowUp I 425 ρ') L) = some (.inr o) ∧ NFo F0 c σ I L (some o) := by
  have p8 := pc_le F0
  have bF := sb_le b2
  have pF := pc_le F'
  have e0 := ps_eq m' F'
  have e1 := ps_eq m' (F' + 1)
  have e2 := qp_eq m F
  have e3 := qp_eq m' F'
  unfold mX3_nextFacts_b44
  rw [gI_o 1 (n := 5) rfl, obind, rowUp_same, a1, gI_o 0 (n := 5) rfl, obind, rowUp_same, a0, cbits_ok _ hFr, obind]
  by_cases hm' : pc F0 < m'
  · rw [if_pos (show nI (pc F0) < nI m' from nI_lt hm' (by omega)), xts]
    have F0' : F' = 0 := by rcases b3 with q | q <;> omega
    refine Or.inr ⟨_, rfl, 0, ρ', rfl, Or.inr ⟨rfl, fun d h1 h2 => ?_⟩⟩
    by_cases q : d < ps m' F'
    · exact b4 d h1 q
    · exact kv_top (by omega)
  · rw [if_neg (show ¬ nI (pc F0) < nI m' from nI_nlt (by omega) (by omega)), gI_o 2 (n := 5) rfl, obind, rowUp_same, a2, cbits_ok _ (by omega), obind, obind, c_eqd (by omega) (by omega)]
    by_cases hp : pc F' = m'
    · have kfe := kf_at (m := m') (F := F') (S := 0) (by omega) (by omega)
      have kse := ks_at (m := m') (F := F') (S := 0) (by omega) (by omega)
      obtain ⟨g, hg⟩ : ∃ g, g = m' * 65536 + F' * 256 + 0 := ⟨_, rfl⟩
      rw [← hg] at kfe kse
      have hv : kv F0 g = true := kv_iff.mpr ⟨by rw [kfe, hp]; omega, by rw [kfe]; exact b2, by rw [kse]; exact sb_0 _⟩
      have g6 : g / 65536 = m' := by omega
      have cg : c < g := by omega
      have gl : g < 589824 := by omega
      have bg : ∀ d, c < d → d < g → kv F0 d = false := fun d h1 h2 => b4 d h1 (by omega)
      clear hg
      rw [if_pos hp, xts]
      refine Or.inr ⟨_, rfl, 1, ρ', rfl, Or.inl ⟨rfl, g, cg, gl, hv, bg, a0, Or.inr ⟨g, rfl, hv, ?_, ?_, ?_, a4⟩⟩⟩
      · rw [a1, g6]
      · rw [a2, kfe]
      · rw [a3, kse]; rfl
    · rw [if_neg hp, nI_1]
      have q1 : m' ≤ pc F0 := by omega
      have q2 : c < ps m' (F' + 1) := by omega
      have q3 : i + 1 ≤ qp m' F' := by omega
      refine Or.inl ⟨_, rfl, ⟨i + 1, m', F', ρ', rfl, a0, a1, a2, a3, a4, q1, b2, fun d h1 h2 => ?_, q2, q3⟩, ?_⟩
      · by_cases q : d < ps m' F'
        · exact b4 d h1 q
        · refine kv_no fun z => hp ?_
          have a : kf d = F' := by show d / 256 % 256 = F'; omega
          have b : d / 65536 = m' := by omega
          rw [← a, z.1, b]
      · rw [NFm_at a1 a2 (by omega) (by omega), NFm_at h1 h2 (by omega) (by omega)]
        have : qp m' F' < 2304 := by omega
        omega
theorem nextFacts_ok {F0 : Nat} (hFr : F0 < 256) {ρ : Nat → Int32} {m F c : Nat} (h0 : ρ 0 = nI F0) (h1 : ρ 1 = nI m) (h2 : ρ 2 = nI F) (h3 : ρ 3 = 0) (h4 : ρ 4 = 1) (hm : m ≤ pc F0) (hF : sb F F0)
    (hz : ∀ d, c < d → d < ps m (F + 1) → kv F0 d = false) (hc : c < ps m (F + 1)) : NFo F0 c σ I L (mX3_nextFacts 425 (hk σ (rowUp I 425 ρ) L)) := by
  have p8 := pc_le F0
  unfold mX3_nextFacts mX3_nextFacts_l2
  rw [if_pos s425]
  refine lp_ind (f := fun s : Int32 × Hp => mX3_nextFacts_l2f 425 s.1 s.2) (NFi F0 c σ I L) NFm (NFo F0 c σ I L)
    (fun st hQ => ?_)
    (nI 0, hk σ (rowUp I 425 ρ) L) ⟨0, m, F, ρ, rfl, h0, h1, h2, h3, h4, hm, hF, hz, hc, Nat.zero_le _⟩
  obtain ⟨i, m, F, ρ, rfl, h0, h1, h2, h3, h4, hm, hF, hz, hc, hi⟩ := hQ
  have hFl := sb_le hF
  have e1 := ps_eq m (F + 1)
  have e2 := qp_eq m F
  show (∃ t, mX3_nextFacts_l2f 425 (nI i) (hk σ (rowUp I 425 ρ) L) = some (.inl t) ∧ NFi F0 c σ I L t ∧ NFm t < NFm (nI i, hk σ (rowUp I 425 ρ) L)) ∨ ∃ o, mX3_nextFacts_l2f 425 (nI i) (hk σ (rowUp I 425 ρ) L) = some (.inr o) ∧ NFo F0 c σ I L (some o)
  unfold mX3_nextFacts_l2f
  rw [show (2304 : Int32) = nI 2304 from rfl, c_lt (show i < 2304 by omega) (by omega), gI_o 2 (n := 5) rfl, obind, rowUp_same, h2, gI_o 0 (n := 5) rfl, obind, rowUp_same, h0, obind, nsb_I hFr (by omega), sI_ok s425, obind, setI_hk, rowUp_two, hpI_hk', rowUp_same, gI_o 2 (n := 5) rfl, obind, rowUp_same, updA_same]
  by_cases he : F = F0
  · rw [he, nsb_top hFr, if_pos (show nI 0 = 0 from rfl), gI_o 1 (n := 5) rfl, obind, rowUp_same, updA_ne _ _ (by omega), h1, sI_ok s425, obind, setI_hk, rowUp_two, hpI_hk', rowUp_same, nI_1]
    have e3 := ps_eq (m + 1) 0
    have e4 := qp_eq (m + 1) 0
    refine nf_tail hFr h1 h2 hm (by omega) hi (m' := m + 1) (F' := 0) (ρ' := updA (updA ρ 2 (nI 0)) 1 (nI (m + 1))) (by rw [updA_ne _ _ (by omega), updA_ne _ _ (by omega), h0]) (updA_same _ _ _) (by rw [updA_ne _ _ (by omega), updA_same]) (by rw [updA_ne _ _ (by omega), updA_ne _ _ (by omega), h3]) (by rw [updA_ne _ _ (by omega), updA_ne _ _ (by omega), h4]) (by omega) (sb_0 _) (Or.inr rfl) (fun d h1' h2' => ?_) (by omega) (by omega)
    by_cases q : d < ps m (F + 1)
    · exact hz d h1' q
    · refine kv_no fun z => ?_
      have a : kf d ≤ F0 := sb_le z.2.1
      have b : F < kf d := by show F < d / 256 % 256; omega
      omega
  · obtain ⟨n1, n2, n3⟩ := nsb_up hFr hF he
    have nl := sb_le n2
    have e3 := ps_eq m (nsb F F0)
    have e4 := qp_eq m (nsb F F0)
    rw [if_neg (show ¬ nI (nsb F F0) = 0 from nI_ne0 (by omega) (by omega))]
    refine nf_tail hFr h1 h2 hm (by omega) hi (m' := m) (F' := nsb F F0) (ρ' := updA ρ 2 (nI (nsb F F0))) (by rw [updA_ne _ _ (by omega), h0]) (by rw [updA_ne _ _ (by omega), h1]) (updA_same _ _ _) (by rw [updA_ne _ _ (by omega), h3]) (by rw [updA_ne _ _ (by omega), h4]) (by omega) n2 (Or.inl hm) (fun d h1' h2' => ?_) (by omega) (by omega)
    by_cases q : d < ps m (F + 1)
    · exact hz d h1' q
    · refine kv_no fun z => ?_
      have a : F < kf d := by show F < d / 256 % 256; omega
      have b : kf d < nsb F F0 := by show d / 256 % 256 < _; omega
      exact n3 (kf d) a b z.2.1
/-- more -/
theorem kf_in {d m F : Nat} (hF : F < 256) (h1 : m * 65536 + F * 256 ≤ d) (h2 : d < m * 65536 + (F + 1) * 256) : kf d = F ∧ ks d = d - (m * 65536 + F * 256) := by
  obtain ⟨r, hr, hd⟩ : ∃ r, r < 256 ∧ d = (m * 256 + F) * 256 + r := ⟨d - (m * 65536 + F * 256), by omega, by omega⟩
  have q : d / 256 = m * 256 + F := by omega
  refine ⟨?_, ?_⟩
  · show d / 256 % 256 = F
    rw [q]; omega
  · show d % 256 = _
    omega
theorem more_ok {F0 : Nat} (hFr : F0 < 256) {ρ : Nat → Int32} {e : Nat} (hp : PK F0 ρ e) :
    ∃ v ρ', mX3_more 425 (hk σ (rowUp I 425 ρ) L) = some (v, hk σ (rowUp I 425 ρ') L) ∧ ((v = 1 ∧ ∃ c, e ≤ c ∧ c < 589824 ∧ kv F0 c = true ∧ (∀ d, e ≤ d → d < c → kv F0 d = false) ∧ PK F0 ρ' (c + 1)) ∨ (v = 0 ∧ ∀ d, e ≤ d → d < 589824 → kv F0 d = false)) := by
  have p8 := pc_le F0
  unfold mX3_more
  rw [if_pos s425, gI_o 4 (n := 5) rfl, obind, rowUp_same]
  obtain ⟨h0, ⟨rfl, h1, h2, h3, h4⟩ | ⟨c, rfl, hv, h1, h2, h3, h4⟩⟩ := hp
  · rw [h4, if_pos rfl, sZ_ok s425 (Or.inr rfl), obind, setI_hk, rowUp_two, hpI_hk', rowUp_same]
    have k0 : kv F0 0 = true := kv_iff.mpr ⟨by decide, sb_0 _, sb_0 _⟩
    refine ⟨1, _, rfl, Or.inl ⟨rfl, 0, Nat.le_refl _, by omega, k0, fun d _ h => by omega, by rw [updA_ne _ _ (by omega), h0], Or.inr ⟨0, rfl, k0, ?_, ?_, ?_, updA_same _ _ _⟩⟩⟩
    · rw [updA_ne _ _ (by omega), h1]; rfl
    · rw [updA_ne _ _ (by omega), h2]; rfl
    · rw [updA_ne _ _ (by omega), h3]; rfl
  · have v := kv_iff.mp hv
    have kl := kf_lt c
    have sl := ks_lt c
    have pcl := pc_sb v.2.1
    have ec : c = c / 65536 * 65536 + kf c * 256 + ks c := by unfold kf ks; omega
    have pk8 := pc_le (kf c)
    have v1 := v.1
    rw [h4, if_neg (by decide), gI_o 3 (n := 5) rfl, obind, rowUp_same, h3, gI_o 2 (n := 5) rfl, obind, rowUp_same, h2, c_eqd (by omega) (by omega)]
    by_cases hse : ks c = kf c
    · rw [if_pos hse, sI_ok s425, obind, setI_hk, rowUp_two, hpI_hk', rowUp_same]
      have pe := ps_eq (c / 65536) (kf c + 1)
      obtain ⟨w, ρ', e1, e2⟩ := nextFacts_ok (σ := σ) (I := I) (L := L) hFr (ρ := updA ρ 3 0) (m := c / 65536) (F := kf c) (c := c) (by rw [updA_ne _ _ (by omega), h0]) (by rw [updA_ne _ _ (by omega), h1]) (by rw [updA_ne _ _ (by omega), h2]) (updA_same _ _ _) (by rw [updA_ne _ _ (by omega), h4]) (by omega) v.2.1 (fun d d1 d2 => kv_no fun z => by
        obtain ⟨a, b⟩ := kf_in (d := d) (m := c / 65536) kl (by omega) (by omega)
        have := sb_le z.2.2
        omega) (by omega)
      rw [e1, b2s]
      have w01 : w = 0 ∨ w = 1 := by rcases e2 with ⟨q, _⟩ | ⟨q, _⟩ <;> simp [q]
      have z : z01 w = some w := by unfold z01; rw [if_pos w01]
      rw [z, obind]
      refine ⟨w, ρ', rfl, ?_⟩
      rcases e2 with ⟨q, g, g1, g2, g3, g4, g5⟩ | ⟨q, q2⟩
      · exact Or.inl ⟨q, g, g1, g2, g3, fun d d1 d2 => g4 d d1 d2, g5⟩
      · exact Or.inr ⟨q, fun d d1 d2 => q2 d d1 d2⟩
    · obtain ⟨n1, n2, n3⟩ := nsb_up kl v.2.2 hse
      have nl := sb_le n2
      rw [if_neg hse, obind, obind, obind, nsb_I kl (by omega), sI_ok s425, obind, setI_hk, rowUp_two, hpI_hk', rowUp_same]
      have kfe := kf_at (m := c / 65536) (F := kf c) (S := nsb (ks c) (kf c)) kl (by omega)
      have kse := ks_at (m := c / 65536) (F := kf c) (S := nsb (ks c) (kf c)) kl (by omega)
      have kv' : kv F0 (c / 65536 * 65536 + kf c * 256 + nsb (ks c) (kf c)) = true := kv_iff.mpr ⟨by rw [kfe]; omega, by rw [kfe]; exact v.2.1, by rw [kfe, kse]; exact n2⟩
      obtain ⟨g, hg⟩ : ∃ g, g = c / 65536 * 65536 + kf c * 256 + nsb (ks c) (kf c) := ⟨_, rfl⟩
      rw [← hg] at kfe kse kv'
      have g1 : c + 1 ≤ g := by omega
      have g2 : g < 589824 := by omega
      have g3 : g / 65536 = c / 65536 := by omega
      have gz : ∀ d, c + 1 ≤ d → d < g → kv F0 d = false := fun d d1 d2 => kv_no fun z => by
        obtain ⟨a, b⟩ := kf_in (d := d) (m := c / 65536) kl (by omega) (by omega)
        have b1 : ks c < ks d := by omega
        have b2 : ks d < nsb (ks c) (kf c) := by omega
        have y := z.2.2
        rw [a] at y
        exact n3 (ks d) b1 b2 y
      clear hg
      refine ⟨1, _, rfl, Or.inl ⟨rfl, g, g1, g2, kv', gz, by rw [updA_ne _ _ (by omega), h0], Or.inr ⟨g, rfl, kv', ?_, ?_, ?_, ?_⟩⟩⟩
      · rw [updA_ne _ _ (by omega), h1, g3]
      · rw [updA_ne _ _ (by omega), h2, kfe]
      · rw [updA_same, kse]
      · rw [updA_ne _ _ (by omega), h4]
end Picks
