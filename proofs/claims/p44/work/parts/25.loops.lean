/-! loops of the usual shapes -/
theorem lp_traj {S ρ : Type} {f : S → Option (S ⊕ ρ)} (n : Nat) (G : Nat → S) (r : ρ) (hs : ∀ i, i < n → f (G i) = some (.inl (G (i + 1)))) (he : f (G n) = some (.inr r)) : lp f (G 0) = some r :=
  lp_up (f := f) n (fun i s => s = G i) (fun o => o = some r) (fun i s hi h => by subst h; exact Or.inl ⟨_, hs i hi, rfl⟩) (fun s h => by subst h; exact ⟨r, he, rfl⟩) (i := 0) (s := G 0) (Nat.zero_le _) rfl
theorem lp_xt {S ρ : Type} {f : S → Option (S ⊕ ρ)} {s : S} {K : Option ρ} (h : f s = xt K) : lp f s = K := by
  rw [lp_eq, h]; cases K <;> rfl
/-- from a place on -/
theorem lp_trajF {S ρ : Type} {f : S → Option (S ⊕ ρ)} (m n : Nat) (G : Nat → S) (r : ρ) (hmn : m ≤ n) (hs : ∀ i, m ≤ i → i < n → f (G i) = some (.inl (G (i + 1)))) (he : f (G n) = some (.inr r)) : lp f (G m) = some r :=
  lp_up (f := f) n (fun i s => m ≤ i ∧ s = G i) (fun o => o = some r) (fun i s hi h => by obtain ⟨h1, rfl⟩ := h; exact Or.inl ⟨_, hs i h1 hi, by omega, rfl⟩) (fun s h => by obtain ⟨h1, rfl⟩ := h; exact ⟨r, he, rfl⟩) (i := m) (s := G m) hmn ⟨Nat.le_refl _, rfl⟩
/-- with a heap that is known by what holds of it -/
theorem lp_inv {S ρ : Type} {f : S → Option (S ⊕ ρ)} (n : Nat) (Q : Nat → S → Prop) (P : ρ → Prop)
    (hs : ∀ i s, i < n → Q i s → ∃ t, f s = some (.inl t) ∧ Q (i + 1) t) (he : ∀ s, Q n s → ∃ r, f s = some (.inr r) ∧ P r) {s : S} (h : Q 0 s) : ∃ r, lp f s = some r ∧ P r :=
  lp_up (f := f) n Q (fun o => ∃ r, o = some r ∧ P r) (fun i s hi h => Or.inl (hs i s hi h)) (fun s h => by obtain ⟨r, h1, h2⟩ := he s h; exact ⟨r, h1, r, rfl, h2⟩) (i := 0) (s := s) (Nat.zero_le _) h
/-- the same with ways out -/
theorem lp_invX {S ρ : Type} {f : S → Option (S ⊕ ρ)} (n : Nat) (Q : Nat → S → Prop) (P : ρ → Prop)
    (hs : ∀ i s, i < n → Q i s → (∃ t, f s = some (.inl t) ∧ Q (i + 1) t) ∨ ∃ r, f s = some (.inr r) ∧ P r) (he : ∀ s, Q n s → ∃ r, f s = some (.inr r) ∧ P r) {i : Nat} {s : S} (hi : i ≤ n) (h : Q i s) : ∃ r, lp f s = some r ∧ P r :=
  lp_up (f := f) n Q (fun o => ∃ r, o = some r ∧ P r) (fun i s hi h => (hs i s hi h).imp (fun x => x) (fun ⟨r, h1, h2⟩ => ⟨r, h1, r, rfl, h2⟩)) (fun s h => by obtain ⟨r, h1, h2⟩ := he s h; exact ⟨r, h1, r, rfl, h2⟩) (i := i) (s := s) hi h
/-- the first place with a property -/
def fstB (p : Nat → Bool) : Nat → Option Nat
  | 0 => none
  | n + 1 => match fstB p n with
    | some i => some i
    | none => if p n then some n else none
theorem fstB_some {p : Nat → Bool} {n i : Nat} : fstB p n = some i ↔ i < n ∧ p i = true ∧ ∀ j, j < i → p j = false := by
  induction n with
  | zero => simp [fstB]
  | succ n ih =>
    simp only [fstB]
    cases hf : fstB p n with
    | some k =>
      rw [hf] at ih
      constructor
      · intro h
        cases h
        have := ih.mp rfl
        exact ⟨by omega, this.2⟩
      · rintro ⟨h1, h2, h3⟩
        by_cases hi : i < n
        · exact ih.mpr ⟨hi, h2, h3⟩
        · have hk : k < n ∧ p k = true := by
            cases hn : fstB p n with
            | none => rw [hn] at hf; cases hf
            | some k' =>
              rw [hn] at hf; cases hf
              clear ih
              revert hn
              have aux : ∀ n k, fstB p n = some k → k < n ∧ p k = true := by
                intro n
                induction n with
                | zero => intro k h; cases h
                | succ n ih =>
                  intro k h
                  simp only [fstB] at h
                  cases hq : fstB p n with
                  | some m => rw [hq] at h; cases h; have := ih _ hq; exact ⟨by omega, this.2⟩
                  | none =>
                    rw [hq] at h
                    by_cases hp : p n = true
                    · simp [hp] at h; subst h; exact ⟨by omega, hp⟩
                    · simp [hp] at h
              exact aux n k
          have := h3 k (by omega)
          rw [hk.2] at this; cases this
    | none =>
      rw [hf] at ih
      have hno : ∀ j, j < n → p j = false := by
        have aux : ∀ n, fstB p n = none → ∀ j, j < n → p j = false := by
          intro n
          induction n with
          | zero => intro _ j hj; omega
          | succ n ih =>
            intro h j hj
            simp only [fstB] at h
            cases hq : fstB p n with
            | some m => rw [hq] at h; cases h
            | none =>
              rw [hq] at h
              have hp : p n = false := by cases hpn : p n <;> simp [hpn] at h ⊢
              by_cases e : j = n
              · subst e; exact hp
              · exact ih hq j (by omega)
        exact aux n hf
      by_cases hp : p n = true
      · simp only [hp, if_true]
        constructor
        · intro h; cases h; exact ⟨by omega, hp, hno⟩
        · rintro ⟨h1, h2, h3⟩
          by_cases hi : i = n
          · rw [hi]
          · have := hno i (by omega); rw [this] at h2; cases h2
      · have hp' : p n = false := by cases h : p n <;> simp [h] at hp ⊢
        simp only [hp', Bool.false_eq_true, if_false]
        constructor
        · intro h; cases h
        · rintro ⟨h1, h2, h3⟩
          by_cases hi : i = n
          · subst hi; rw [hp'] at h2; cases h2
          · have := hno i (by omega); rw [this] at h2; cases h2
theorem fstB_none {p : Nat → Bool} {n : Nat} : fstB p n = none ↔ ∀ j, j < n → p j = false := by
  induction n with
  | zero => simp [fstB]
  | succ n ih =>
    simp only [fstB]
    cases hf : fstB p n with
    | some k =>
      rw [hf] at ih
      have := fstB_some.mp hf
      constructor
      · intro h; cases h
      · intro h; have h2 := h k (by omega); rw [this.2.1] at h2; cases h2
    | none =>
      rw [hf] at ih
      have hno := ih.mp rfl
      by_cases hp : p n = true
      · simp only [hp, if_true]
        constructor
        · intro h; cases h
        · intro h; have := h n (by omega); rw [hp] at this; cases this
      · have hp' : p n = false := by cases h : p n <;> simp [h] at hp ⊢
        simp only [hp', Bool.false_eq_true, if_false, true_iff]
        intro j hj
        by_cases e : j = n
        · subst e; exact hp'
        · exact hno j (by omega)
theorem lp_first {ρ S : Type} {f : S → Option (S ⊕ ρ)} (n : Nat) (G : Nat → S) (p : Nat → Bool) (A : Nat → ρ) (B : ρ)
    (hs : ∀ i, i < n → p i = false → f (G i) = some (.inl (G (i + 1)))) (hf : ∀ i, i < n → p i = true → f (G i) = some (.inr (A i))) (he : f (G n) = some (.inr B)) :
    lp f (G 0) = some (match fstB p n with | some i => A i | none => B) := by
  refine lp_up (f := f) n (fun i s => s = G i ∧ ∀ j, j < i → p j = false) (fun o => o = some (match fstB p n with | some i => A i | none => B)) ?_ ?_ (i := 0) (s := G 0) (Nat.zero_le _) ⟨rfl, fun j hj => by omega⟩
  · rintro i s hi ⟨rfl, hj⟩
    cases hp : p i with
    | false => exact Or.inl ⟨_, hs i hi hp, rfl, fun j hj2 => by
        by_cases e : j = i
        · subst e; exact hp
        · exact hj j (by omega)⟩
    | true =>
      refine Or.inr ⟨_, hf i hi hp, ?_⟩
      rw [fstB_some.mpr ⟨hi, hp, hj⟩]
  · rintro s ⟨rfl, hj⟩
    exact ⟨_, he, by rw [fstB_none.mpr hj]⟩
/-- all of them, or a way out -/
theorem lp_all {ρ S : Type} {f : S → Option (S ⊕ ρ)} (n : Nat) (G : Nat → S) (p : Nat → Bool) (A B : ρ)
    (hs : ∀ i, i < n → p i = true → f (G i) = some (.inl (G (i + 1)))) (hf : ∀ i, i < n → p i = false → f (G i) = some (.inr A)) (he : f (G n) = some (.inr B)) :
    lp f (G 0) = some (if allB p n = true then B else A) := by
  refine lp_up (f := f) n (fun i s => s = G i ∧ ∀ j, j < i → p j = true) (fun o => o = some (if allB p n = true then B else A)) ?_ ?_ (i := 0) (s := G 0) (Nat.zero_le _) ⟨rfl, fun j hj => by omega⟩
  · rintro i s hi ⟨rfl, hj⟩
    cases hp : p i with
    | true => exact Or.inl ⟨_, hs i hi hp, rfl, fun j hj2 => by
        by_cases e : j = i
        · subst e; exact hp
        · exact hj j (by omega)⟩
    | false =>
      refine Or.inr ⟨_, hf i hi hp, ?_⟩
      have : allB p n = false := by
        cases h : allB p n
        · rfl
        · rw [allB_iff.mp h i hi] at hp; cases hp
      rw [this]; rfl
  · rintro s ⟨rfl, hj⟩
    exact ⟨_, he, by rw [allB_iff.mpr hj]; rfl⟩
theorem lp_any {ρ S : Type} {f : S → Option (S ⊕ ρ)} (n : Nat) (G : Nat → S) (p : Nat → Bool) (A B : ρ)
    (hs : ∀ i, i < n → p i = false → f (G i) = some (.inl (G (i + 1)))) (hf : ∀ i, i < n → p i = true → f (G i) = some (.inr A)) (he : f (G n) = some (.inr B)) :
    lp f (G 0) = some (if anyB p n = true then A else B) := by
  have h := lp_all n G (fun i => !p i) A B (fun i hi h => hs i hi (by simpa using h)) (fun i hi h => hf i hi (by simpa using h)) he
  rw [h]
  have : allB (fun i => !p i) n = !anyB p n := by
    cases h : anyB p n
    · rw [Bool.not_false, allB_iff]
      intro w hw
      cases hp : p w
      · rfl
      · have : anyB p n = true := anyB_iff.mpr ⟨w, hw, hp⟩
        rw [h] at this; cases this
    · obtain ⟨w, hw, hp⟩ := anyB_iff.mp h
      cases h2 : allB (fun i => !p i) n
      · rfl
      · have := allB_iff.mp h2 w hw; rw [hp] at this; cases this
  rw [this]
  cases anyB p n <;> rfl
/-- a bit test of any number -/
theorem hasI_b (x : Int32) {i : Nat} (hi : i < 32) : hasI x (nI i) = bI (bt x i) := by
  have e : ((x >>> (nI i &&& 31)) &&& (1 : Int32)) = bI (bt x i) := by
    apply b_ext; intro j hj
    have h1 : ∀ j, j < 32 → bt 1 j = decide (j = 0) := by decide +kernel
    rw [b_and, h1 j hj, b_sshr i hi x hj]
    have h2 : bt (bI (bt x i)) j = (bt x i && decide (j = 0)) := by
      cases bt x i
      · simp [bI, b_0]
      · simp [bI, h1 j hj]
    rw [h2]
    by_cases e : j = 0
    · subst e; simp [hi]
    · simp [e]
  unfold hasI; rw [e]
  cases bt x i <;> rfl
theorem bt_n {a i : Nat} (h : i < 32) : bt (nI a) i = a.testBit i := by rw [bt_nI]; simp [h]
/-! sets of worlds, the rest -/
theorem w_hi {w : Nat} (h : w < 256) : nI w >>> ((6 : Int32) &&& 31) = nI (w / 64) := by
  have := shr_n (a := w) (f := 6) (by omega) (by omega)
  rw [Nat.shiftRight_eq_div_pow] at this
  exact this
theorem w_lo {w : Nat} : nI w &&& (63 : Int32) = nI (w % 64) := by
  rw [show (63 : Int32) = nI 63 from rfl, nx_and, show (63 : Nat) = 2 ^ 6 - 1 from rfl, Nat.and_two_pow_sub_one_eq_mod]
theorem holds_ok {a p w : Nat} {h : Hp} {f : Nat → Bool} (hw : isW h a p) (hf : Rw (hpL h p) f) (h256 : w < 256) : mX10_holds a (nI w) h = some (bI (f w)) := by
  unfold mX10_holds
  rw [if_pos hw.1, w_hi h256, if_neg (nI_pos (by omega)), hw.g, Option.bind_some, hw.len, Option.bind_some, c_lt (by omega) (by omega), Option.bind_some, ldL_ok hw.2.2 (by omega) (by omega), Option.bind_some, w_lo]
  simp only [lg_cmp0]
  have e := hf w h256
  unfold wv at e
  have hs : ((nI (w % 64)).toInt64.toUInt64 &&& Int64.toUInt64 63).toNat = w % 64 := by
    rw [wb_cu _ (by omega)]; exact u_tn (by omega)
  have t := ts_bit (w := hpL h p (w / 64)) (s := (nI (w % 64)).toInt64.toUInt64 &&& Int64.toUInt64 63) (j := w % 64) (by omega) hs
  have hu : ushrL (hpL h p (w / 64)) (nI (w % 64)) = ((hpL h p (w / 64)).toUInt64 >>> ((nI (w % 64)).toInt64.toUInt64 &&& Int64.toUInt64 63)).toInt64 := rfl
  rw [hu]
  cases hfw : f w with
  | false => rw [hfw] at e; rw [if_pos (t.mpr e)]; rfl
  | true => rw [hfw] at e; rw [if_neg (fun z => by rw [t.mp z] at e; cases e)]; rfl
theorem size_ok {a p : Nat} {h : Hp} {f : Nat → Bool} (hw : isW h a p) (hf : Rw (hpL h p) f) : mX10_size a h = some (nI (cntB f 256)) := by
  unfold mX10_size mX10_size_l4
  rw [if_pos hw.1]
  have key := lp_traj (f := fun s : Int32 × Int32 => mX10_size_l4f a h s.1 s.2) 4 (fun i => (nI (cntB f (64 * i)), nI i)) (nI (cntB f 256)) (fun i hi => ?_) ?_
  · exact key
  · show mX10_size_l4f a h (nI (cntB f (64 * i))) (nI i) = _
    unfold mX10_size_l4f
    rw [hw.g, Option.bind_some, hw.len, Option.bind_some, c_lt hi (by omega), Option.bind_some, ldL_ok hw.2.2 hi (by omega), Option.bind_some, lbit_ok, Option.bind_some, nI_1, nI_add]
    have : cntB (fun j => (hpL h p i).toBitVec.getLsbD j) 64 = cntB (fun j => f (64 * i + j)) 64 := cntB_congr fun j hj => hf.bit hi hj
    rw [this, show 64 * (i + 1) = 64 * i + 64 by omega, cntB_add]
  · show mX10_size_l4f a h (nI (cntB f (64 * 4))) (nI 4) = _
    unfold mX10_size_l4f
    rw [hw.g, Option.bind_some, hw.len, Option.bind_some, c_nlt (Nat.le_refl _) (by omega)]; rfl
theorem isEmpty_ok {a p : Nat} {h : Hp} {f : Nat → Bool} (hw : isW h a p) (hf : Rw (hpL h p) f) : mX10_isEmpty a h = some (bI (!anyB f 256)) := by
  unfold mX10_isEmpty
  rw [if_pos hw.1, size_ok hw hf, Option.bind_some, c_0 (by have := cntB_le f 256; omega)]
  by_cases e : cntB f 256 = 0
  · rw [if_pos e, cntB_0.mp e]; rfl
  · rw [if_neg e]
    cases hb : anyB f 256
    · exact absurd (cntB_0.mpr hb) e
    · rfl
/-! in which sets a fact is -/
def soT (f : Nat) : Int64 := if f = 0 then -6148914691236517206 else if f = 1 then -3689348814741910324 else if f = 2 then -1085102592571150096 else if f = 3 then -71777214294589696 else if f = 4 then -281470681808896 else -4294967296
def SOk (L : Nat → Nat → Int64) : Prop := ∀ f, f < 6 → L 2 f = soT f
def soV (f i : Nat) : Int64 := if f < 6 then soT f else if (i >>> (f - 6)) % 2 = 0 then 0 else -1
theorem soV_bit : ∀ f, f < 8 → ∀ i, i < 4 → ∀ j, j < 64 → (soV f i).toBitVec.getLsbD j = (64 * i + j).testBit f := by decide +kernel
theorem soIn_ok {σ : Sg} {I : Nat → Nat → Int32} {L : Nat → Nat → Int64} (hS : SOk L) {f i : Nat} (hf : f < 8) (hi : i < 4) : mX10_soIn (nI f) (nI i) (hk σ I L) = some (soV f i) := by
  have h2 : hpS (hk σ I L) 2 = (81, 6) := rfl
  have e : ∀ f i, f < 8 → 6 ≤ f → i < 4 → mX10_soIn_b18 (nI f) (nI i) (hk σ I L) = some (soV f i) := by
    intro f i hf h6 hi
    unfold mX10_soIn_b18
    rw [aLen_ok h2 rfl, Option.bind_some, nI_sub h6]
    have k : ∀ f, f < 8 → 6 ≤ f → ∀ i, i < 4 → (if ((nI i >>> (nI (f - 6) &&& 31)) &&& (1 : Int32)) = 0 then some (0 : Int64) else some (-1 : Int64)) = some (soV f i) := by decide +kernel
    exact k f hf h6 i hi
  unfold mX10_soIn
  rw [if_neg (nI_pos (by omega)), aLen_ok h2 rfl, Option.bind_some]
  by_cases h6 : f < 6
  · rw [c_lt h6 (by omega), ldL_ro h2 h6 (by omega), Option.bind_some, hpL_hk, hS f h6]
    unfold soV; rw [if_pos h6]
  · rw [c_nlt (by omega) (by omega)]; exact e f i hf (by omega) hi
def agM (y : Int32) (g k : Nat) : Int64 := if bt y g = true then soV g k else soV g k ^^^ (-1)
/-- a set agrees with literals: bits of a fact, from f on -/
def agN (x y : Int32) (w : Nat) (n : Nat) : Bool := allB (fun f => !bt x f || (w.testBit f == bt y f)) n
theorem isW_hk {σ : Sg} {I : Nat → Nat → Int32} {L : Nat → Nat → Int64} {a p : Nat} (h1 : (SH (gN σ) a).1 = 11) (h2 : RF σ a 0 = p) (h3 : SH (gN σ) p = (51, 4)) : isW (hk σ I L) a p := ⟨h1, h2, h3⟩
theorem agree_ok {σ : Sg} {I : Nat → Nat → Int32} {L : Nat → Nat → Int64} (hS : SOk L) {a p : Nat} {f : Nat → Bool} (hw : isW (hk σ I L) a p) (hp : p ≠ 2) (hf : Rw (L p) f) (x y : Int32) :
    ∃ r, mX10_agree a x y (hk σ I L) = some (hk σ I (rowUp L p r)) ∧ Rw r (fun w => f w && agN x y w 8) := by
  have hw' : ∀ r, isW (hk σ I (rowUp L p r)) a p := fun r => hw
  have inner : ∀ g, g < 8 → ∀ r, bt x g = true → mX10_agree_l11 a x y (nI g) 0 (hk σ I (rowUp L p r)) = some (.inl (nI (g + 1), hk σ I (rowUp L p (fun k => if k < 4 then r k &&& agM y g k else r k)))) := by
    intro g hg r hb
    unfold mX10_agree_l11
    have key := lp_traj (f := fun s : Int32 × Hp => mX10_agree_l11f a x y (nI g) s.1 s.2) 4 (fun i => (nI i, hk σ I (rowUp L p (fun k => if k < i then r k &&& agM y g k else r k)))) (.inl (nI (g + 1), hk σ I (rowUp L p (fun k => if k < 4 then r k &&& agM y g k else r k)))) (fun i hi => ?_) ?_
    · have e0 : (fun k => if k < 0 then r k &&& agM y g k else r k) = r := by funext k; rw [if_neg (by omega)]
      rw [e0] at key
      exact key
    · show mX10_agree_l11f a x y (nI g) (nI i) _ = _
      unfold mX10_agree_l11f mX10_agree_b64
      have hS2 : ∀ r, SOk (rowUp L p r) := fun r k hk => by rw [rowUp_at, if_neg (by omega)]; exact hS k hk
      rw [(hw' _).g, Option.bind_some, (hw' _).len, Option.bind_some, c_lt hi (by omega), has_b, hasI_b x (by omega), hb, if_neg (by decide), Option.bind_some, ldL_ok (hw' _).2.2 hi (by omega), Option.bind_some, has_b, hasI_b y (by omega), soIn_ok (hS2 _) hg hi]
      simp only [Option.bind_some, stL_ok (hw' _).2.2 hi (by omega : 4 < 2147483648), nI_1]
      have fin : ∀ v : Int64, v = r i &&& agM y g i → setL (hk σ I (rowUp L p (fun k => if k < i then r k &&& agM y g k else r k))) p (updA (hpL (hk σ I (rowUp L p (fun k => if k < i then r k &&& agM y g k else r k))) p) i v) = hk σ I (rowUp L p (fun k => if k < i + 1 then r k &&& agM y g k else r k)) := by
        intro v hv
        rw [setL_hk, rowUp_two]
        congr 2
        funext k
        rw [updA_at, hpL_hk, rowUp_same]
        by_cases h1 : k = i
        · subst h1; rw [if_pos rfl, if_pos (by omega), hv]
        · rw [if_neg h1]
          by_cases h2 : k < i
          · rw [if_pos h2, if_pos (by omega)]
          · rw [if_neg h2, if_neg (by omega)]
      have rd : hpL (hk σ I (rowUp L p (fun k => if k < i then r k &&& agM y g k else r k))) p i = r i := by
        rw [hpL_hk, rowUp_same, if_neg (by omega)]
      cases hy : bt y g with
      | false =>
        rw [show bI false = 0 from rfl, if_pos rfl, rd, fin _ (by unfold agM; rw [hy]; rfl)]
      | true =>
        rw [show bI true = 1 from rfl, if_neg (by decide), rd, fin _ (by unfold agM; rw [hy]; rfl)]
    · show mX10_agree_l11f a x y (nI g) (nI 4) _ = _
      unfold mX10_agree_l11f mX10_agree_b72
      rw [(hw' _).g, Option.bind_some, (hw' _).len, Option.bind_some, c_nlt (Nat.le_refl _) (by omega), xt_some, nI_1]
  have innerN : ∀ g, g < 8 → ∀ r, bt x g = false → mX10_agree_l11 a x y (nI g) 0 (hk σ I (rowUp L p r)) = some (.inl (nI (g + 1), hk σ I (rowUp L p r))) := by
    intro g hg r hb
    unfold mX10_agree_l11
    refine lp_inr ?_
    show mX10_agree_l11f a x y (nI g) (nI 0) _ = _
    unfold mX10_agree_l11f mX10_agree_b72
    rw [(hw' _).g, Option.bind_some, (hw' _).len, Option.bind_some, c_lt (by omega) (by omega), has_b, hasI_b x (by omega), hb, if_pos (show bI false = 0 from rfl), nI_1]; rfl
  unfold mX10_agree mX10_agree_l2
  rw [if_pos hw.1]
  have h0 : hk σ I L = hk σ I (rowUp L p (L p)) := by rw [rowUp_id]
  rw [h0]
  have key := lp_inv (f := fun s : Int32 × Hp => mX10_agree_l2f a x y s.1 s.2) 8 (fun i s => ∃ r, s = (nI i, hk σ I (rowUp L p r)) ∧ Rw r (fun w => f w && agN x y w i)) (fun h' => ∃ r, h' = hk σ I (rowUp L p r) ∧ Rw r (fun w => f w && agN x y w 8))
    (fun i s hi hQ => by
      obtain ⟨r, rfl, hr⟩ := hQ
      show ∃ t, mX10_agree_l2f a x y (nI i) _ = some (.inl t) ∧ _
      unfold mX10_agree_l2f
      rw [show (8 : Int32) = nI 8 from rfl, c_lt hi (by omega)]
      cases hb : bt x i with
      | false =>
        refine ⟨_, innerN i hi r hb, r, rfl, fun w hw => ?_⟩
        rw [hr w hw]; simp [agN, allB, hb]
      | true =>
        refine ⟨_, inner i hi r hb, _, rfl, ?_⟩
        refine wv_fill fun q hq j hj => ?_
        rw [i64_and, hr.bit hq hj]
        unfold agM
        have hs := soV_bit i hi q hq j hj
        cases hy : bt y i with
        | false => rw [if_neg (by decide), i64_not _ hj, hs]; simp only [agN, allB, hb, hy]; cases f (64 * q + j) <;> cases (64 * q + j).testBit i <;> simp
        | true => rw [if_pos rfl, hs]; simp only [agN, allB, hb, hy]; cases f (64 * q + j) <;> cases (64 * q + j).testBit i <;> simp)
    (fun s hQ => by
      obtain ⟨r, rfl, hr⟩ := hQ
      refine ⟨_, ?_, r, rfl, hr⟩
      show mX10_agree_l2f a x y (nI 8) _ = _
      unfold mX10_agree_l2f
      rw [show (8 : Int32) = nI 8 from rfl, c_nlt (Nat.le_refl _) (by omega)]; rfl)
    (s := (nI 0, hk σ I (rowUp L p (L p)))) ⟨_, rfl, fun w hw => by rw [hf w hw]; simp [agN, allB]⟩
  obtain ⟨h', e, r, rfl, hr⟩ := key
  exact ⟨r, e, hr⟩
/-- the same for sets of small numbers -/
theorem agN_n {F S w : Nat} (hF : F < 256) (hS : S < 256) : agN (nI F) (nI S) w 8 = decide (w &&& F = S &&& F) := by
  unfold agN
  have e : allB (fun f => !bt (nI F) f || (w.testBit f == bt (nI S) f)) 8 = allB (fun f => !F.testBit f || (w.testBit f == S.testBit f)) 8 := allB_congr fun f hf => by rw [bt_n (by omega), bt_n (by omega)]
  rw [e]
  by_cases h : w &&& F = S &&& F
  · rw [decide_eq_true h, allB_iff]
    intro f hf
    have := congrArg (fun x => x.testBit f) h
    simp only [Nat.testBit_and] at this
    cases hb : F.testBit f
    · rfl
    · rw [hb] at this; simp at this; simp [this]
  · rw [decide_eq_false h]
    cases hb : allB (fun f => !F.testBit f || (w.testBit f == S.testBit f)) 8
    · rfl
    · exfalso; apply h
      apply Nat.eq_of_testBit_eq
      intro f
      rw [Nat.testBit_and, Nat.testBit_and]
      by_cases hf : f < 8
      · have := allB_iff.mp hb f hf
        cases hq : F.testBit f
        · simp
        · rw [hq] at this; simp at this; simp [this]
      · have : F.testBit f = false := Nat.testBit_lt_two_pow (Nat.lt_of_lt_of_le hF (Nat.pow_le_pow_right (n := 2) (by omega) (show 8 ≤ f by omega)))
        rw [this]; simp
theorem keepFirst_ok {σ : Sg} {I : Nat → Nat → Int32} {L : Nat → Nat → Int64} (hS : SOk L) {a p n : Nat} {f : Nat → Bool} (hw : isW (hk σ I L) a p) (hp : p ≠ 2) (hf : Rw (L p) f) (hn : n ≤ 8) :
    ∃ r, mX10_keepFirst a (nI n) (hk σ I L) = some (hk σ I (rowUp L p r)) ∧ Rw r (fun w => f w && decide (w < 2 ^ n)) := by
  obtain ⟨r, e, hr⟩ := agree_ok hS hw hp hf ((-1 : Int32) <<< (nI n &&& 31)) 0
  refine ⟨r, ?_, fun w hw => ?_⟩
  · unfold mX10_keepFirst
    rw [if_pos hw.1, e]; rfl
  · rw [hr w hw]
    have k : ∀ n, n < 9 → ∀ w, w < 256 → agN ((-1 : Int32) <<< (nI n &&& 31)) 0 w 8 = decide (w < 2 ^ n) := by decide +kernel
    show (f w && agN _ _ w 8) = (f w && decide _)
    rw [k n (by omega) w hw]
