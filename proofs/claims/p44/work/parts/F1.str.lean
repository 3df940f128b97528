/-! STRINGS AND THEIR BUILDERS, as rows of bytes -/
/-- a builder x, its row of cap bytes, what it holds -/
def SBc (h : Hp) (x : Nat) (t : List Nat) (cap : Nat) : Prop :=
  (433 ≤ x ∧ x < hpN h ∧ hpS h x = (17, 4) ∧ hpI h x 1 = 0 ∧ hpI h x 3 = nI t.length) ∧ (433 ≤ hpR h x 0 ∧ hpR h x 0 < hpN h ∧ hpS h (hpR h x 0) = (53, cap) ∧ t.length ≤ cap) ∧
  (∀ j, j < cap → ∃ c, c < 128 ∧ hpI h (hpR h x 0) j = nI c) ∧ (∀ j, j < t.length → t.getD j 0 < 128 ∧ hpI h (hpR h x 0) j = nI (t.getD j 0)) ∧ ∀ a, a < hpN h → txk h a → a ≠ x → hpR h a 0 ≠ hpR h x 0
def SB (h : Hp) (x : Nat) (t : List Nat) : Prop := ∃ cap, SBc h x t cap ∧ cap ≤ 2 * t.length + 34
/-- a builder that is made, nothing in it yet -/
def UB (h : Hp) (x : Nat) : Prop := 433 ≤ x ∧ x < hpN h ∧ hpS h x = (17, 4) ∧ hpI h x 3 = 0 ∧ hpR h x 0 = 0
/-- a String -/
def ST (h : Hp) (s : Nat) (t : List Nat) : Prop := (∀ j, j < t.length → t.getD j 0 < 128) ∧
  ((10 ≤ s ∧ s < 34 ∧ zLen (s - 10) = t.length ∧ ∀ j, j < t.length → zByte (s - 10) j = nI (t.getD j 0)) ∨
   (433 ≤ s ∧ s < hpN h ∧ hpS h s = (18, 4) ∧ hpI h s 1 = 0 ∧ 433 ≤ hpR h s 0 ∧ hpR h s 0 < hpN h ∧ hpS h (hpR h s 0) = (53, t.length) ∧ ∀ j, j < t.length → hpI h (hpR h s 0) j = nI (t.getD j 0)))
def own (h : Hp) (x : Nat) : Nat → Prop := fun a => a = x ∨ a = hpR h x 0
theorem sh0l (x : Int32) : x <<< ((0 : Int32) &&& 31) = x := by
  apply b_ext; intro i hi
  rw [show ((0 : Int32) &&& 31) = (nI 0 &&& 31) from rfl, b_shl 0 (by omega) _ hi, decide_eq_true (Nat.zero_le i), Bool.true_and, Nat.sub_zero]
theorem sh0r (x : Int32) : x >>> ((0 : Int32) &&& 31) = x := by
  apply b_ext; intro i hi
  rw [show ((0 : Int32) &&& 31) = (nI 0 &&& 31) from rfl, b_sshr 0 (by omega) _ hi, if_pos (by omega), Nat.zero_add]
theorem sub_np {n m : Nat} (h : n ≤ m) (hm : m < 2 ^ 31) : ¬ 0 < nI n - nI m := by
  intro z
  have e1 : (nI n - nI m).toInt = (n : Int) - (m : Int) := by
    rw [Int32.toInt_sub, nI_toInt (by omega), nI_toInt hm]
    exact Int.bmod_eq_of_le (by omega) (by omega)
  have h2 := Int32.lt_iff_toInt_lt.mp z
  rw [e1] at h2
  have z0 : (0 : Int32).toInt = 0 := rfl
  rw [z0] at h2
  omega
theorem getD_app (t u : List Nat) (j : Nat) : (t ++ u).getD j 0 = if j < t.length then t.getD j 0 else u.getD (j - t.length) 0 := by
  rw [List.getD_eq_getElem?_getD, List.getD_eq_getElem?_getD, List.getD_eq_getElem?_getD, List.getElem?_append]
  split <;> rfl
theorem by128 : ∀ c, c < 128 → okB (nI c) = true ∧ fits .byte (.int (nI c)) = true ∧ zN .char (i2cV (nI c &&& (255 : Int32))) = some (nI c) ∧ zN .char (nI c) = some (nI c) ∧ (i2cV (nI c)) = nI c ∧ (nI c).toInt8.toInt32 = nI c ∧ mJ1_canEncode_fc78d (nI c) = some 1 := by unfold mJ1_canEncode_fc78d; decide +kernel
section F1
variable {h h' h1 h2 h3 : Hp} {P P' : Nat → Prop} {c c' s s' a b kd n x y cap : Nat} {t u : List Nat}
theorem ST.by (hs : ST h s t) : ∃ b, sV s h = some b ∧ sC s h = some 0 ∧ bOk b h = true ∧ bN b h = t.length ∧ (∀ j, j < t.length → bAt b h j = nI (t.getD j 0)) ∧ ((10 ≤ s ∧ s < 34) ∨ (hpS h s).1 = 18) ∧ ((40 ≤ b ∧ b < 64) ∨ (433 ≤ b ∧ (hpS h b).1 = 53 ∧ b = hpR h s 0 ∧ b < hpN h ∧ 433 ≤ s ∧ s < hpN h ∧ (hpS h s).1 = 18)) := by
  obtain ⟨h0, ⟨a1, a2, a3, a4⟩ | ⟨a1, a2, a3, a4, a5, a6, a7, a8⟩⟩ := hs
  · refine ⟨s + 30, ?_, ?_, ?_, ?_, fun j hj => ?_, Or.inl ⟨a1, a2⟩, Or.inl ⟨by omega, by omega⟩⟩
    · unfold sV; rw [if_pos ⟨a1, a2⟩]
    · unfold sC; rw [if_pos ⟨a1, a2⟩]
    · unfold bOk; rw [decide_eq_true (show 40 ≤ s + 30 ∧ s + 30 < 64 by omega)]; rfl
    · unfold bN; rw [if_pos (by omega), show s + 30 - 40 = s - 10 by omega, a3]
    · unfold bAt; rw [if_pos (by omega), show s + 30 - 40 = s - 10 by omega, a4 j hj]
  · have k18 : (hpS h s).1 = 17 + 1 := by rw [a3]
    refine ⟨hpR h s 0, ?_, ?_, ?_, ?_, fun j hj => ?_, Or.inr k18, Or.inr ⟨a5, by rw [a7], rfl, a6, a1, a2, k18⟩⟩
    · unfold sV; rw [if_neg (by omega), gR_ok k18]
    · unfold sC; rw [if_neg (by omega), gI_ok k18, a4]
    · unfold bOk; rw [a7]; simp
    · unfold bN; rw [if_neg (by omega), if_neg (by omega), if_neg (by omega), a7]
    · unfold bAt; rw [if_neg (by omega), if_neg (by omega), if_neg (by omega), a8 j hj]
theorem ST.cod (hs : ST h s t) : mJ0_coder_7d493 s h = some 0 := by
  obtain ⟨b, e1, e2, e3, e4, e5, e6, _⟩ := hs.by
  unfold mJ0_coder_7d493
  rw [if_pos e6, if_neg (by decide), e2, obind]; decide
theorem bLn_ok {b n : Nat} (h1 : bOk b h = true) (h2 : bN b h = n) : bLn b h = some (nI n) := by unfold bLn; rw [if_pos h1, h2]; rfl
theorem ST.len (hs : ST h s t) : mJ0_length_8abf5 s h = some (nI t.length) := by
  obtain ⟨b, e1, e2, e3, e4, e5, e6, _⟩ := hs.by
  unfold mJ0_length_8abf5
  rw [if_pos e6, e1, obind, bLn_ok e3 e4, obind, hs.cod, obind, sh0r]
theorem ST.chr (hs : ST h s t) (hl : t.length < 100000) {j : Nat} (hj : j < t.length) : mJ0_charAt_5068e s (nI j) h = some (nI (t.getD j 0)) := by
  obtain ⟨b, e1, e2, e3, e4, e5, e6, _⟩ := hs.by
  have hc := hs.1 j hj
  obtain ⟨_, _, c3, c4, _⟩ := by128 _ hc
  have il : mJ0_isLatin1_aae02 s h = some 1 := by
    unfold mJ0_isLatin1_aae02
    rw [if_pos e6, if_neg (by decide), e2, obind, if_pos rfl]
  have ld : bLd b (nI j) h = some (nI (t.getD j 0)) := by
    unfold bLd
    rw [if_pos ⟨e3, by rw [e4, inB_nI (by omega)]; exact decide_eq_true hj⟩, ixN_nI (by omega), e5 j hj]
  unfold mJ0_charAt_5068e mJ1_charAt_3b067 mJ0_checkIndex_df160 mJ3_checkIndex_8e157
  rw [if_pos e6, il, obind, if_neg (by decide), e1, obind, bLn_ok e3 e4, obind, if_neg (nI_pos (by omega)), c_lt hj (by omega), obind, obind, ld, obind, c3, obind, c4]
theorem SBc.sm (hx : SBc h x t cap) (e : Gw h h' P c s) (h1 : ¬ P x) (h2 : ¬ P (hpR h x 0)) : SBc h' x t cap := by
  obtain ⟨⟨a1, a2, a3, a4, a5⟩, ⟨b1, b2', b3, b4⟩, c1, d1, f1⟩ := hx
  obtain ⟨g1, g2, g3, g4⟩ := e.sm a2 h1
  obtain ⟨k1, k2, k3, k4⟩ := e.sm b2' h2
  have hn := e.le
  have r : hpR h' x 0 = hpR h x 0 := by rw [g4]
  unfold SBc
  rw [r]
  refine ⟨⟨a1, by omega, by rw [g1]; exact a3, by rw [g2]; exact a4, by rw [g2]; exact a5⟩, ⟨b1, by omega, by rw [k1]; exact b3, b4⟩, fun j hj => by rw [k2]; exact c1 j hj, fun j hj => by rw [k2]; exact d1 j hj, fun a ha hk hne => ?_⟩
  rcases e.2.2 a ha hk with ⟨q1, q2, q3⟩ | q | q
  · rw [q3]; exact f1 a q1 q2 hne
  · rw [q]; omega
  · omega
theorem SB.sm (hx : SB h x t) (e : Gw h h' P c s) (h1 : ¬ P x) (h2 : ¬ P (hpR h x 0)) : SB h' x t := by
  obtain ⟨cap, a, b⟩ := hx
  exact ⟨cap, a.sm e h1 h2, b⟩
theorem ST.sm (hs : ST h s' t) (e : Gw h h' P c s) (hp : 433 ≤ s' → ¬ P s' ∧ ¬ P (hpR h s' 0)) : ST h' s' t := by
  obtain ⟨h0, q | ⟨a1, a2, a3, a4, a5, a6, a7, a8⟩⟩ := hs
  · exact ⟨h0, Or.inl q⟩
  · obtain ⟨g1, g2, g3, g4⟩ := e.sm a2 (hp a1).1
    obtain ⟨k1, k2, k3, k4⟩ := e.sm a6 (hp a1).2
    have hn := e.le
    refine ⟨h0, Or.inr ⟨a1, by omega, by rw [g1]; exact a3, by rw [g2]; exact a4, ?_⟩⟩
    rw [g4]
    exact ⟨a5, by omega, by rw [k1]; exact a7, fun j hj => by rw [k2]; exact a8 j hj⟩
theorem SB.fr (hx : SB h x t) (e : Gw h h' nP c s) : SB h' x t := hx.sm e (fun q => q) (fun q => q)
theorem ST.fr (hs : ST h s' t) (e : Gw h h' nP c s) : ST h' s' t := hs.sm e (fun _ => ⟨fun q => q, fun q => q⟩)
/-- other Strings and builders, when one builder is written -/
theorem SBc.keepS {u : List Nat} (hx : SBc h x t cap) (hs : ST h s' u) (e : Gw h h' (own h x) c s) : ST h' s' u := by
  refine hs.sm e fun q => ?_
  obtain ⟨_, ⟨a1, a2, _⟩ | ⟨a1, a2, a3, a4, a5, a6, a7, a8⟩⟩ := hs
  · omega
  · obtain ⟨⟨b1, b2, b3, _⟩, ⟨_, _, b5, _⟩, _, _, b4⟩ := hx
    have n1 : s' ≠ x := fun z => by rw [z, b3] at a3; cases a3
    refine ⟨fun z => ?_, fun z => ?_⟩
    · rcases z with z | z
      · exact n1 z
      · rw [z, b5] at a3; cases a3
    · rcases z with z | z
      · rw [z, b3] at a7; cases a7
      · exact b4 s' a2 (Or.inr (by rw [a3])) n1 z
theorem SB.keepS {u : List Nat} (hx : SB h x t) (hs : ST h s' u) (e : Gw h h' (own h x) c s) : ST h' s' u := by
  obtain ⟨cap, hx, _⟩ := hx
  exact hx.keepS hs e
theorem SB.two {u : List Nat} (hx : SB h x t) (hy : SB h y u) (hne : y ≠ x) (e : Gw h h' (own h x) c s) : SB h' y u := by
  obtain ⟨cx, ⟨⟨b1, b2, b3, _⟩, ⟨_, _, b5, _⟩, _, _, b4⟩, _⟩ := hx
  obtain ⟨cy, ⟨⟨a1, a2, a3, _⟩, ⟨_, a4, a5, _⟩, _⟩, _⟩ := id hy
  refine hy.sm e (fun z => ?_) (fun z => ?_)
  · rcases z with z | z
    · exact hne z
    · rw [z, b5] at a3; cases a3
  · rcases z with z | z
    · rw [z, b3] at a5; cases a5
    · exact b4 y a2 (Or.inl (by rw [a3])) hne z
theorem UB.keepB (hx : SB h x t) (hy : UB h y) (hne : y ≠ x) (e : Gw h h' (own h x) c s) : UB h' y := by
  obtain ⟨cx, ⟨⟨b1, b2, b3, _⟩, ⟨_, _, b5, _⟩, _, _, b4⟩, _⟩ := hx
  obtain ⟨a1, a2, a3, a4, a5⟩ := hy
  have hn := e.le
  obtain ⟨g1, g2, g3, g4⟩ := e.sm a2 (fun z => by
    rcases z with z | z
    · exact hne z
    · rw [z, b5] at a3; cases a3)
  exact ⟨a1, by omega, by rw [g1]; exact a3, by rw [g2]; exact a4, by rw [g4]; exact a5⟩
theorem UB.fr (hy : UB h y) (e : Gw h h' nP c s) : UB h' y := by
  obtain ⟨a1, a2, a3, a4, a5⟩ := hy
  have hn := e.le
  obtain ⟨g1, g2, g3, g4⟩ := e.sm a2 (fun q => q)
  exact ⟨a1, by omega, by rw [g1]; exact a3, by rw [g2]; exact a4, by rw [g4]; exact a5⟩
theorem SBc.kx (hx : SBc h x t cap) : (hpS h x).1 = 16 + 1 := by rw [hx.1.2.2.1]
/-- room for n bytes -/
theorem ens_ok (hC : CLO h) (hx : SBc h x t cap) (hn : n ≤ 3000) (hc : cap ≤ 20000) : ∃ h' cap', mJ5_ensureCapacityInternal_d00df x (nI n) h = some h' ∧ SBc h' x t cap' ∧ n ≤ cap' ∧ (cap' = cap ∨ cap' ≤ 2 * n + 2) ∧ Gw h h' (own h x) 1 (2 * n + 2) ∧ (hpR h' x 0 < hpN h → own h x (hpR h' x 0)) := by
  obtain ⟨⟨a1, a2, a3, a4, a5⟩, ⟨b1, b2', b3, b4⟩, c1, d1, f1⟩ := id hx
  have kx := hx.kx
  obtain ⟨v, hv⟩ : ∃ v, v = hpR h x 0 := ⟨_, rfl⟩
  rw [← hv] at b1 b2' b3 c1 d1 f1
  have g0 : gR 16 0 x h = some v := by rw [gR_ok kx, hv]
  have g1 : gI 16 1 x h = some 0 := by rw [gI_ok kx, a4]
  have bo : bOk v h = true := by unfold bOk; rw [b3]; simp
  have bn : bN v h = cap := by unfold bN; rw [if_neg (by omega), if_neg (by omega), if_neg (by omega), b3]
  have ln : bLn v h = some (nI cap) := bLn_ok bo bn
  unfold mJ5_ensureCapacityInternal_d00df
  rw [if_pos kx, g0, obind, ln, obind, g1, obind, sh0r]
  by_cases q : n ≤ cap
  · refine ⟨h, cap, ?_, hx, q, Or.inl rfl, Gw.rf _ _, fun _ => Or.inr rfl⟩
    rw [if_neg (sub_np q (by omega))]
  · have e1 : nI n - nI cap = nI (n - cap) := nI_sub (by omega)
    have nc : mJ5_newCapacity_0f7a4 x (nI n) h = some (nI (cap + max (n - cap) (cap + 2))) := by
      unfold mJ5_newCapacity_0f7a4 mJ8_newLength_cabcc
      rw [if_pos kx, g0, obind, ln, obind, g1, obind, obind, sh0l, sh0l, e1, show (2 : Int32) = nI 2 from rfl, nI_add, max_d (by omega) (by omega), nI_add, if_pos (show (0 : Int32) < nI (cap + max (n - cap) (cap + 2)) from nI_lt (a := 0) (by omega) (by omega)), show (2147483639 : Int32) = nI 2147483639 from rfl, c_nlt (by omega) (by omega), obind, show (2147483647 : Int32) = nI 2147483647 from rfl, c_eqd (by omega) (by omega), if_neg (by omega), obind, sh0r]
    obtain ⟨m, hm⟩ : ∃ m, m = cap + max (n - cap) (cap + 2) := ⟨_, rfl⟩
    rw [← hm] at nc
    have m1 : n ≤ m := by omega
    have m2 : cap < m := by omega
    have m3 : m ≤ 2 * n + 2 := by omega
    obtain ⟨hB, hHB⟩ : ∃ hB, hB = hpNew 53 m h := ⟨_, rfl⟩
    have hN : v ≠ hpN h := by omega
    have bS : hpS hB v = (53, cap) := by rw [hHB, nw_S, if_neg hN, b3]
    have bI' : hpI hB v = hpI h v := by rw [hHB, nw_I hN]
    have bo2 : bOk v hB = true := by unfold bOk; rw [bS]; simp
    have bn2 : bN v hB = cap := by unfold bN; rw [if_neg (by omega), if_neg (by omega), if_neg (by omega), bS]
    have dS : hpS hB (hpN h) = (53, m) := by rw [hHB, nw_S, if_pos rfl]
    have mm : mmin (nI cap) (nI m) = nI cap := by rw [min_d (by omega) (by omega), Nat.min_eq_left (by omega)]
    have cok : cpB v (0 : Int32) (hpN h) (0 : Int32) (nI cap) hB = some (cpH v (0 : Int32) (hpN h) (0 : Int32) (nI cap) hB) := by
      unfold cpB
      rw [if_pos]
      unfold cpC
      have i0 : ixN (0 : Int32) = 0 := rfl
      have ic : ixN (nI cap) = cap := ixN_nI (by omega)
      rw [bo2, dS, bn2, i0, ic]
      simp only [Bool.and_eq_true, decide_eq_true_eq, List.all_eq_true, List.mem_range, Bool.true_and]
      refine ⟨⟨⟨trivial, ⟨by decide, by decide, nI_pos (by omega)⟩⟩, by omega, by omega⟩, fun i hi => ?_⟩
      obtain ⟨c, hc, ec⟩ := c1 i hi
      unfold bAt
      rw [if_neg (by omega), if_neg (by omega), if_neg (by omega), Nat.zero_add, bI', ec]
      exact (by128 c hc).2.1
    have co : mJ7_copyOf_9075b v (nI m) h = some (hpN h, cpH v (0 : Int32) (hpN h) (0 : Int32) (nI cap) hB) := by
      unfold mJ7_copyOf_9075b
      rw [ln, obind, c_eqd (by omega) (by omega), if_neg (by omega), newV_ok 53 (by omega) (by omega), b2s, ← hHB, bLn_ok bo2 bn2, obind, mm, cok, obind]
    obtain ⟨hD, hHD⟩ : ∃ hD, hD = cpH v (0 : Int32) (hpN h) (0 : Int32) (nI cap) hB := ⟨_, rfl⟩
    rw [← hHD] at co
    have xN : x ≠ hpN h := by omega
    have cS : ∀ a, hpS hD a = if a = hpN h then (53, m) else hpS h a := fun a => by rw [hHD, cp_S, hHB]; rfl
    have kC : (hpS hD x).1 = 16 + 1 := by rw [cS, if_neg xN, a3]
    have eC : Gw h hD (own h x) 1 m := by
      have e0 := ((Gw.rf (h := h) (P := own h x) 0 0).nw 53 m)
      rw [← hHB, Nat.zero_add, Nat.zero_add] at e0
      rw [hHD]
      exact e0.cp (fun q => by omega)
    have cI : ∀ a, a ≠ hpN h → hpI hD a = hpI h a := fun a ha => by rw [hHD, cp_I ha, hHB, nw_I ha]
    have cN : ∀ j, j < m → hpI hD (hpN h) j = if j < cap then hpI h v j else 0 := fun j hj => by
      rw [hHD, cp_Id]
      unfold va_cpy
      have i0 : ixN (0 : Int32) = 0 := rfl
      have ic : ixN (nI cap) = cap := ixN_nI (by omega)
      rw [i0, ic]
      by_cases q : j < cap
      · rw [if_pos (by omega), if_pos q]
        unfold bAt
        rw [if_neg (by omega), if_neg (by omega), if_neg (by omega), bI']
        congr 1; omega
      · rw [if_neg (by omega), if_neg q, hHB, nw_I0]
    have cR : ∀ a, a ≠ hpN h → hpR hD a = hpR h a := fun a ha => by rw [hHD, cp_R, hHB, nw_R ha]
    have nC : hpN hD = hpN h + 1 := by rw [hHD, cp_N, hHB, nw_N]
    have r : hpR (setR hD x (updA (hpR hD x) 0 (hpN h))) x 0 = hpN h := by rw [setR_R, if_pos rfl, updA_same]
    refine ⟨setR hD x (updA (hpR hD x) 0 (hpN h)), m, ?_, ?_, m1, Or.inr m3, ?_, ?_⟩
    · rw [if_pos (show 0 < nI n - nI cap by rw [e1]; exact nI_lt (a := 0) (by omega) (by omega)), obind, nc, obind, obind, sh0l, co, b2s, sR_ok kC, obind]
    · unfold SBc
      rw [r]
      refine ⟨⟨a1, by rw [setR_N]; omega, by rw [setR_S, cS, if_neg xN]; exact a3, by rw [setR_I, cI x xN]; exact a4, by rw [setR_I, cI x xN]; exact a5⟩, ⟨by omega, by rw [setR_N]; omega, by rw [setR_S, cS, if_pos rfl], by omega⟩, fun j hj => ?_, fun j hj => ?_, fun a ha hk hne => ?_⟩
      · rw [setR_I, cN j hj]
        by_cases q : j < cap
        · rw [if_pos q]; exact c1 j q
        · rw [if_neg q]; exact ⟨0, by omega, rfl⟩
      · rw [setR_I, cN j (by omega), if_pos (by omega)]; exact d1 j hj
      · rw [setR_N, nC] at ha
        rw [setR_R, if_neg hne]
        have hk : txk hD a := hk
        unfold txk at hk
        rw [cS] at hk
        by_cases q : a = hpN h
        · rw [if_pos q] at hk; have hk : (53 : Nat) = 17 ∨ (53 : Nat) = 18 := hk; omega
        · rw [if_neg q] at hk
          have := hC.2 a (by omega) hk
          rw [cR a q]; omega
    · exact (eC.sR (fun _ => Or.inl rfl) (fun _ => Or.inr (by rw [updA_same, nC]; exact ⟨Nat.le_refl _, by omega⟩))).up (fun _ _ z => z) (Nat.le_refl _) (by omega)
    · rw [r]; intro z; omega
end F1
