/-! THE LAW TELLS A TEXT -/
section G2
variable {σ σ' : Sg} {I I' I1 I2 : Nat → Nat → Int32} {L L' L1 L2 : Nat → Nat → Int64} {X : Nat → Nat} {n z : Nat} {t : List Nat} {h h' : Hp} {P : Nat → Prop} {c s : Nat}
/-- the class's part of a heap that grew -/
theorem hk_of (e : Gw (hk σ I L) h' P c s) (h433 : 433 ≤ (gN σ).2.2.1) (hp : ∀ a, a = 2 ∨ (100 ≤ a ∧ a < 433) → ¬ P a) : ∃ σ', h' = hk σ' (hpI h') (hpL h') ∧ gla σ' = gla σ ∧ glb σ' = glb σ ∧ gsa σ' = gsa σ ∧ gsb σ' = gsb σ ∧ gpl σ' = gpl σ ∧ gps σ' = gps σ ∧ gN σ' = (h'.1, h'.2.2.2.1, hpN h', hpM h') ∧ ∀ a, a = 2 ∨ (100 ≤ a ∧ a < 433) → hpI h' a = I a ∧ hpL h' a = L a := by
  have hN : hpN (hk σ I L) = (gN σ).2.2.1 := rfl
  have sm : ∀ a, a = 2 ∨ (100 ≤ a ∧ a < 433) → Sm (hk σ I L) h' a := fun a ha => e.sm (by rw [hN]; omega) (hp a ha)
  refine ⟨((h'.1, h'.2.2.2.1, hpN h', hpM h'), σ.2), ?_, rfl, rfl, rfl, rfl, rfl, rfl, rfl, fun a ha => ⟨(sm a ha).2.1, (sm a ha).2.2.1⟩⟩
  have eS : h'.1 = SH (h'.1, h'.2.2.2.1, hpN h', hpM h') := by
    funext a
    unfold SH
    by_cases q : 100 ≤ a ∧ a < 433
    · rw [if_pos q]
      have := (sm a (Or.inr q)).1
      rw [hpS_hk] at this
      unfold SH at this
      rw [if_pos q] at this
      exact this
    · rw [if_neg q]
      by_cases q2 : a = 2
      · rw [if_pos q2]
        have := (sm a (Or.inl q2)).1
        rw [hpS_hk] at this
        unfold SH at this
        rw [if_neg q, if_pos q2] at this
        exact this
      · rw [if_neg q2]
  have eR : h'.2.2.2.1 = RF ((h'.1, h'.2.2.2.1, hpN h', hpM h'), σ.2) := by
    funext a k
    by_cases q : 100 ≤ a ∧ a < 433
    · have := congrFun (sm a (Or.inr q)).2.2.2 k
      have e2 : hpR (hk σ I L) a k = RF σ a k := rfl
      rw [e2] at this
      have e3 : hpR h' a k = h'.2.2.2.1 a k := rfl
      rw [e3] at this
      rw [this]
      unfold RF
      by_cases q0 : a = 100
      · rw [if_pos q0, if_pos q0]; rfl
      · rw [if_neg q0, if_neg q0]
        by_cases q1 : a = 282
        · rw [if_pos q1, if_pos q1]; rfl
        · rw [if_neg q1, if_neg q1, if_pos q, if_pos q]
    · unfold RF
      rw [if_neg (by omega), if_neg (by omega), if_neg q]; rfl
  show h' = (SH (h'.1, h'.2.2.2.1, hpN h', hpM h'), hpI h', hpL h', RF ((h'.1, h'.2.2.2.1, hpN h', hpM h'), σ.2), hpN h', hpM h')
  rw [← eS, ← eR]; rfl
theorem ST.row (hs : ST (hk σ I L) z t) (f : ∀ x, 433 ≤ x → I' x = I x) : ST (hk σ I' L') z t := by
  obtain ⟨h0, q | ⟨a1, a2, a3, a4, a5, a6, a7, a8⟩⟩ := hs
  · exact ⟨h0, Or.inl q⟩
  · have f1 := f z a1
    have f2 := f _ a5
    refine ⟨h0, Or.inr ⟨a1, a2, a3, ?_, a5, a6, a7, fun j hj => ?_⟩⟩
    · show I' z 1 = 0
      rw [f1]; exact a4
    · show I' (hpR (hk σ I L) z 0) j = _
      rw [f2]; exact a8 j hj
/-- four signs come -/
theorem c_sign (h : TC I X n) (hn : n + 4 ≤ 480) (hb : ∀ i, i < 4 → X (n + i) < 128) : ∃ I1, mX11_sign 100 (nI (256 * (256 * (256 * X n + X (n + 1)) + X (n + 2)) + X (n + 3))) (hk σ I L) = some (nI (n + 4), hk σ I1 L) ∧ TC I1 X (n + 4) ∧ ∀ x, x ≠ 101 → x ≠ 102 → I1 x = I x := by
  obtain ⟨h480, h1, hX⟩ := id h
  obtain ⟨v, hv⟩ : ∃ v, v = 256 * (256 * (256 * X n + X (n + 1)) + X (n + 2)) + X (n + 3) := ⟨_, rfl⟩
  have b0 := hb 0 (by omega)
  have b1 := hb 1 (by omega)
  have b2' := hb 2 (by omega)
  have b3 := hb 3 (by omega)
  rw [Nat.add_zero] at b0
  rw [← hv]
  have hv31 : v < 2 ^ 31 := by omega
  have by4 : ∀ i, i < 4 → (ushrI (nI v) ((24 : Int32) - (8 : Int32) * nI i)) &&& (255 : Int32) = nI (X (n + i)) := fun i hi => by
    obtain ⟨m, hm, e1, e2⟩ := byte4 (nI v) hi
    rw [e1, ← e2, nx_shr hv31 (by omega), show (255 : Int32) = nI 255 from rfl, nx_and, Nat.shiftRight_eq_div_pow]
    have : ∀ a : Nat, a &&& 255 = a % 256 := fun a => Nat.and_two_pow_sub_one_eq_mod a 8
    rw [this]
    congr 1
    rcases (show i = 0 ∨ i = 1 ∨ i = 2 ∨ i = 3 by omega) with rfl | rfl | rfl | rfl
    · show v / 16777216 % 256 = X n; omega
    · show v / 65536 % 256 = X (n + 1); omega
    · show v / 256 % 256 = X (n + 2); omega
    · show v / 1 % 256 = X (n + 3); omega
  have hnb : ¬ (480 : Int32) < nI (n + 4) := nI_nlt (a := 480) (b := n + 4) (by omega) (by omega)
  have cls : ∃ r, mX7_take 101 (nI v) (hk σ I L) = some (1, hk σ (rowUp (rowUp I 102 r) 101 (updA (I 101) 1 (nI (n + 4)))) L) ∧ ∀ j, r j = if n ≤ j ∧ j < n + 4 then nI (X j) else I 102 j := by
    unfold mX7_take mX7_take_l16
    rw [if_pos s101, gI_o 1 (n := 2) rfl, obind, h1, show (4 : Int32) = nI 4 from rfl, nI_add, if_neg hnb]
    obtain ⟨o, e, r, rfl, hr⟩ := lp_inv (f := fun s : Int32 × Hp => mX7_take_l16f 101 (nI v) s.1 s.2) 4 (fun i st => ∃ r, st = (nI i, hk σ (rowUp I 102 r) L) ∧ ∀ j, r j = if n ≤ j ∧ j < n + i then nI (X j) else I 102 j)
      (fun o => ∃ r, o = (1, hk σ (rowUp (rowUp I 102 r) 101 (updA (I 101) 1 (nI (n + 4)))) L) ∧ ∀ j, r j = if n ≤ j ∧ j < n + 4 then nI (X j) else I 102 j)
      (fun i st hi hQ => by
        obtain ⟨r, rfl, hr⟩ := hQ
        refine ⟨_, ?_, updA r (n + i) (nI (X (n + i))), rfl, fun j => ?_⟩
        · show mX7_take_l16f 101 (nI v) (nI i) (hk σ (rowUp I 102 r) L) = _
          unfold mX7_take_l16f
          rw [show (4 : Int32) = nI 4 from rfl, c_lt hi (by omega), g101, RF_101_0, gI_o 1 (n := 2) rfl, obind, rowUp_ne _ _ (by omega), h1, nI_add, by4 i hi, put_nI (n := 480) rfl (by omega) (by omega), obind, setI_hk, rowUp_two, hpI_hk', rowUp_same, nI_1]
        · rw [updA_at, hr]
          by_cases e : j = n + i
          · subst e; rw [if_pos rfl, if_pos (by omega)]
          · rw [if_neg e]
            by_cases q : n ≤ j ∧ j < n + i
            · rw [if_pos q, if_pos (by omega)]
            · rw [if_neg q, if_neg (by omega)])
      (fun st hQ => by
        obtain ⟨r, rfl, hr⟩ := hQ
        refine ⟨_, ?_, r, rfl, hr⟩
        show mX7_take_l16f 101 (nI v) (nI 4) (hk σ (rowUp I 102 r) L) = _
        unfold mX7_take_l16f
        rw [if_neg (by decide), gI_o 1 (n := 2) rfl, obind, rowUp_ne _ _ (by omega), h1, show (4 : Int32) = nI 4 from rfl, nI_add, sI_ok s101, obind, setI_hk, hpI_hk', rowUp_ne _ _ (by omega), xts]) (s := (0, hk σ (rowUp I 102 (I 102)) L)) ⟨I 102, rfl, fun j => by rw [if_neg (by omega)]⟩
    rw [rowUp_id] at e
    exact ⟨r, e, hr⟩
  obtain ⟨r, ec, hr⟩ := cls
  obtain ⟨I1, hI1⟩ : ∃ I1, I1 = rowUp (rowUp I 102 r) 101 (updA (I 101) 1 (nI (n + 4))) := ⟨_, rfl⟩
  rw [← hI1] at ec
  have i11 : I1 101 1 = nI (n + 4) := by rw [hI1, rowUp_same, updA_same]
  refine ⟨I1, ?_, ⟨by omega, i11, fun i hi => ?_⟩, fun x a b => by rw [hI1, rowUp_ne _ _ a, rowUp_ne _ _ b]⟩
  · unfold mX11_sign
    rw [if_pos s100, gTxt, ec, b2s, if_neg (show ¬ (1 : Int32) = 0 by decide), gTxt, gI_o 1 (n := 2) rfl, obind, i11]
  · rw [hI1, rowUp_ne _ _ (by omega), rowUp_same, hr]
    by_cases e : n ≤ i ∧ i < n + 4
    · have := hb (i - n) (by omega)
      rw [show n + (i - n) = i by omega] at this
      rw [if_pos e]; exact ⟨by omega, rfl⟩
    · rw [if_neg e]; exact hX i (by omega)
theorem c_end (h : TC I X n) {m : Nat} (hm : m ≤ n) : ∃ I1, mX11_end 100 (nI m) (hk σ I L) = some (1, hk σ I1 L) ∧ TC I1 X m ∧ ∀ x, x ≠ 101 → I1 x = I x := by
  obtain ⟨hn, h1, hX⟩ := id h
  refine ⟨rowUp I 101 (updA (I 101) 1 (nI m)), ?_, ⟨by omega, by rw [rowUp_same, updA_same], fun i hi => ?_⟩, fun x a => rowUp_ne _ _ a⟩
  · unfold mX11_end mX7_cut
    rw [if_pos s100, gTxt, if_pos s101, if_neg (nI_pos (by omega)), gI_o 1 (n := 2) rfl, obind, h1, c_nlt hm (by omega), sI_ok s101, obind, setI_hk, b2s]
    rfl
  · rw [rowUp_ne _ _ (by omega)]
    exact hX i (by omega)
theorem nI_sh8 (a : Nat) : nI a <<< ((8 : Int32) &&& 31) = nI (256 * a) := by
  apply b_ext; intro i hi
  rw [show ((8 : Int32) &&& 31) = (nI 8 &&& 31) from rfl, b_shl 8 (by omega) _ hi, bt_n hi]
  rw [show 256 * a = a * 2 ^ 8 by omega, Nat.testBit_mul_two_pow]
  by_cases h : 8 ≤ i
  · rw [bt_n (by omega)]
  · simp [h]
theorem or8 (a : Nat) {b : Nat} (h : b < 256) : 256 * a ||| b = 256 * a + b := (Nat.two_pow_add_eq_or_of_lt (i := 8) h a).symm
theorem and255 : ∀ c, c < 128 → nI c &&& (255 : Int32) = nI c := by decide +kernel
/-- the word of i signs from k on -/
def wd (t : List Nat) (k : Nat) : Nat → Nat
  | 0 => 0
  | i + 1 => 256 * wd t k i + t.getD (k + i) 0
/-- text -/
theorem l_text (h433 : (hpS (hk σ I L) 99).1 = 16) (hX : RF σ 99 0 = 100) {m : Nat} (hT : TC I X m) (hs : ST (hk σ I L) z t) (hl : t.length ≤ 476) :
    ∃ I1, mL_text 99 z (hk σ I L) = some (hk σ I1 L) ∧ TC I1 (fun i => t.getD i 0) t.length ∧ ∀ x, x ≠ 101 → x ≠ 102 → I1 x = I x := by
  have g0 : ∀ {I2 : Nat → Nat → Int32} {ρ : Type} (f : Nat → Option ρ), (gR 15 0 99 (hk σ I2 L)).bind f = f 100 := fun {I2 ρ} f => by
    rw [gR_ok (show (hpS (hk σ I2 L) 99).1 = 15 + 1 from h433), obind, hpR_hk, hX]
  have lt128 : ∀ i, t.getD i 0 < 128 := fun i => by
    by_cases q : i < t.length
    · exact hs.1 i q
    · rw [List.getD_eq_getElem?_getD, List.getElem?_eq_none (by omega)]; exact Nat.zero_lt_succ _
  obtain ⟨I0, e0, t0, f0⟩ := c_end (σ := σ) (L := L) hT (Nat.zero_le m)
  have e0 : mX11_end 100 (0 : Int32) (hk σ I L) = some (1, hk σ I0 L) := e0
  have T0 : TC I0 (fun i => t.getD i 0) 0 := ⟨by omega, t0.2.1, fun i hi => absurd hi (Nat.not_lt_zero _)⟩
  unfold mL_text
  rw [if_pos h433, g0, e0, b2s]
  obtain ⟨k, hk'⟩ : ∃ k, k = (t.length + 3) / 4 := ⟨_, rfl⟩
  have sk : ∀ {I2 : Nat → Nat → Int32}, (∀ x, x ≠ 101 → x ≠ 102 → I2 x = I x) → ST (hk σ I2 L) z t := fun {I2} f => hs.row (fun x hx => f x (by omega) (by omega))
  unfold mL_text_l11
  obtain ⟨o, e, I1, rfl, q1, q2⟩ := lp_inv (f := fun s : (Int32 × Hp) => mL_text_l11f 99 z s.1 s.2) k (fun j st => ∃ I2, st = (nI (4 * j), hk σ I2 L) ∧ TC I2 (fun i => t.getD i 0) (4 * j) ∧ ∀ x, x ≠ 101 → x ≠ 102 → I2 x = I x)
    (fun o => ∃ I1, o = hk σ I1 L ∧ TC I1 (fun i => t.getD i 0) t.length ∧ ∀ x, x ≠ 101 → x ≠ 102 → I1 x = I x)
    (fun j st hj hQ => by
      obtain ⟨I2, rfl, tc, f2⟩ := hQ
      have s2 := sk f2
      obtain ⟨I3, e3, t3, f3⟩ := c_sign (σ := σ) (L := L) tc (by omega) (fun i _ => lt128 _)
      refine ⟨(nI (4 * (j + 1)), hk σ I3 L), ?_, I3, rfl, t3, fun x a b => by rw [f3 x a b, f2 x a b]⟩
      show mL_text_l11f 99 z (nI (4 * j)) (hk σ I2 L) = _
      unfold mL_text_l11f
      rw [s2.len, obind, c_lt (by omega) (by omega)]
      unfold mL_text_l24
      have wdl : ∀ i, i ≤ 4 → wd t (4 * j) i < 128 * 256 ^ (i - 1) ∨ i = 0 := fun i hi => by
        rcases (show i = 0 ∨ i = 1 ∨ i = 2 ∨ i = 3 ∨ i = 4 by omega) with rfl | rfl | rfl | rfl | rfl
        · exact Or.inr rfl
        · left; have := lt128 (4 * j + 0); show 256 * 0 + t.getD (4 * j + 0) 0 < 128 * 1; omega
        · left; have := lt128 (4 * j + 0); have := lt128 (4 * j + 1); show 256 * (256 * 0 + t.getD (4 * j + 0) 0) + t.getD (4 * j + 1) 0 < 128 * 256; omega
        · left; have := lt128 (4 * j + 0); have := lt128 (4 * j + 1); have := lt128 (4 * j + 2); show 256 * (256 * (256 * 0 + t.getD (4 * j + 0) 0) + t.getD (4 * j + 1) 0) + t.getD (4 * j + 2) 0 < 128 * 65536; omega
        · left; have := lt128 (4 * j + 0); have := lt128 (4 * j + 1); have := lt128 (4 * j + 2); have := lt128 (4 * j + 3); show 256 * (256 * (256 * (256 * 0 + t.getD (4 * j + 0) 0) + t.getD (4 * j + 1) 0) + t.getD (4 * j + 2) 0) + t.getD (4 * j + 3) 0 < 128 * 16777216; omega
      refine lp_traj (f := fun s : (Int32 × Int32) => mL_text_l24f 99 z (nI (4 * j)) (hk σ I2 L) s.1 s.2) 4 (fun i => (nI (wd t (4 * j) i), nI i)) _ (fun i hi => ?_) ?_
      · show mL_text_l24f 99 z (nI (4 * j)) (hk σ I2 L) (nI (wd t (4 * j) i)) (nI i) = _
        have hb := lt128 (4 * j + i)
        have fin : ∀ b, b = nI (t.getD (4 * j + i) 0) → mL_text_b61 99 z (nI (4 * j)) (nI i) (nI (wd t (4 * j) i) <<< ((8 : Int32) &&& 31)) b (hk σ I2 L) = some (.inl (nI (wd t (4 * j) (i + 1)), nI (i + 1))) := fun b hbe => by
          unfold mL_text_b61
          rw [hbe, nI_sh8, nx_or, or8 _ (by omega), nI_1]; rfl
        unfold mL_text_l24f
        rw [show (4 : Int32) = nI 4 from rfl, c_lt hi (by omega), s2.len, obind, nI_add]
        by_cases q : 4 * j + i < t.length
        · rw [c_lt q (by omega), s2.chr (by omega) q, obind, fin _ (and255 _ hb)]
        · rw [c_nlt (by omega) (by omega), fin 0 (by rw [List.getD_eq_getElem?_getD, List.getElem?_eq_none (by omega)]; rfl)]
      · show mL_text_l24f 99 z (nI (4 * j)) (hk σ I2 L) (nI (wd t (4 * j) 4)) (nI 4) = _
        have w4 : wd t (4 * j) 4 = 256 * (256 * (256 * t.getD (4 * j) 0 + t.getD (4 * j + 1) 0) + t.getD (4 * j + 2) 0) + t.getD (4 * j + 3) 0 := by
          show 256 * (256 * (256 * (256 * 0 + t.getD (4 * j + 0) 0) + t.getD (4 * j + 1) 0) + t.getD (4 * j + 2) 0) + t.getD (4 * j + 3) 0 = _
          rw [Nat.mul_zero, Nat.zero_add, Nat.add_zero]
        have e3 : mX11_sign 100 (nI (wd t (4 * j) 4)) (hk σ I2 L) = some (nI (4 * j + 4), hk σ I3 L) := by rw [w4]; exact e3
        unfold mL_text_l24f
        rw [if_neg (by decide), g0, e3, b2s, show (4 : Int32) = nI 4 from rfl, nI_add]; rfl)
    (fun st hQ => by
      obtain ⟨I2, rfl, tc, f2⟩ := hQ
      have s2 := sk f2
      obtain ⟨I3, e3, t3, f3⟩ := c_end (σ := σ) (L := L) tc (show t.length ≤ 4 * k by omega)
      refine ⟨hk σ I3 L, ?_, I3, rfl, t3, fun x a b => by rw [f3 x a, f2 x a b]⟩
      show mL_text_l11f 99 z (nI (4 * k)) (hk σ I2 L) = _
      unfold mL_text_l11f
      rw [s2.len, obind, c_nlt (by omega) (by omega), g0, obind, e3, b2s, xts])
    (s := (nI 0, hk σ I0 L)) ⟨I0, rfl, T0, fun x a _ => f0 x a⟩
  exact ⟨I1, e, q1, q2⟩
end G2
