section Close
variable {σ : Sg} {I I' J I1 I2 I3 Ja : Nat → Nat → Int32} {L L' L1 L2 : Nat → Nat → Int64} {T N N' M : Nat → Nat} {a a' : Nat} {P P' : Nat → Nat → Nat} {K : Nat → Bool} {Q : Nat → Nat → Nat}
/-- who says a FACT first, and is not STRUCK -/
def fsy (N : Nat → Nat) (f : Nat) : Option Nat := fstB (fun k => (it N k 4).testBit f && !decide (it N k 6 = 1)) (N 18)
theorem cfsy_ok (h : CR σ I L T N) {f : Nat} (hf : f < 8) : mX5_firstSayer (gsa σ) (nI f) (hk σ I L) = some (match fsy N f with | some k => nI k | none => -1) := by
  have hW := h.2.1
  have hN := h.2.2.1
  have hsa := h.1.2.1
  have h18 := (hN.bkH hW).1
  have sl := bs_lt (fun k => decide (it N k 6 = 1)) (N 18)
  have sp := Nat.pow_le_pow_right (n := 2) (by omega) h18
  have body : ∀ k, k < N 18 → mX5_firstSayer_l2f (gsa σ) (nI f) (hk σ I L) (nI k) = if ((it N k 4).testBit f && !decide (it N k 6 = 1)) = true then some (.inr (nI k)) else some (.inl (nI (k + 1))) := fun k hk' => by
    obtain ⟨i4, _, _⟩ := WN.say hW hN hk'
    obtain ⟨_, _, _, _, s5, _⟩ := h.2.2.2.2.2 k hk'
    unfold mX5_firstSayer_l2f mX5_firstSayer_b38
    rw [gI_st hsa, obind, h.2.2.2.2.1.2.2.1, c_lt hk' (by omega), gR_st hsa, obind, RF_st_13 σ hsa, at_r (SH_st5 hsa) (by omega) (by omega), obind, s5, has_nI (by omega) (by omega), obind, bI_if0, nI_1]
    cases (it N k 4).testBit f
    · rw [if_pos rfl]; rfl
    · rw [if_neg nTF, gI_st hsa, obind, h.2.2.2.2.1.2.2.2.1, has_nI (by omega) (by omega), obind, bI_if0, bs_bit, decide_eq_true hk', Bool.true_and]
      cases decide (it N k 6 = 1)
      · rw [if_pos rfl, xts]; rfl
      · rw [if_neg nTF]; rfl
  unfold mX5_firstSayer mX5_firstSayer_l2 fsy
  rw [if_pos (sSt hsa)]
  refine lp_first (f := fun s : Int32 => mX5_firstSayer_l2f (gsa σ) (nI f) (hk σ I L) s) (N 18) (fun i => nI i) (fun k => (it N k 4).testBit f && !decide (it N k 6 = 1)) (fun k => nI k) (-1) (fun k hk' hp => ?_) (fun k hk' hp => ?_) ?_
  · rw [body k hk', hp, if_neg (by decide)]
  · rw [body k hk', hp, if_pos rfl]
  · show mX5_firstSayer_l2f (gsa σ) (nI f) (hk σ I L) (nI (N 18)) = _
    unfold mX5_firstSayer_l2f
    rw [gI_st hsa, obind, h.2.2.2.2.1.2.2.1, c_nlt (Nat.le_refl _) (by omega), xts]
theorem fsy_lt {N : Nat → Nat} {f k : Nat} (h : fsy N f = some k) : k < N 18 := (fstB_some.mp h).1
theorem fsy_mkn {f how so g : Nat} (hf : f < 8) : fsy (mkn N f how so) g = fsy N g := by
  unfold fsy
  rw [mkn_hi hf (by omega)]
  congr 1
  funext k
  rw [mkn_it hf, mkn_it hf]
/-- fact by fact -/
def cl1 (T M : Nat → Nat) (f : Nat) : (Nat → Nat) × Nat := if M f = 0 then (match fsy M f with
    | none => (M, 0)
    | some k => if sme T M f ((it M k 5).testBit f) = true then (mkn M f 1 (if (it M k 5).testBit f = true then 1 else 0), 1) else (mkn M f 3 0, 0)) else (M, 0)
def cln (T N : Nat → Nat) : Nat → (Nat → Nat) × Nat
  | 0 => (N, 0)
  | f + 1 => ((cl1 T (cln T N f).1 f).1, (cln T N f).2 + (cl1 T (cln T N f).1 f).2)
theorem dif1 (b : Bool) : decide ((if b = true then (1 : Nat) else 0) = 1) = b := by cases b <;> rfl
theorem cl1_not {f : Nat} (h : M f ≠ 0) : cl1 T M f = (M, 0) := by unfold cl1; rw [if_neg h]
theorem cl1_none {f : Nat} (h : M f = 0) (hf : fsy M f = none) : cl1 T M f = (M, 0) := by unfold cl1; rw [if_pos h, hf]
theorem cl1_adm {f k : Nat} {so : Bool} (h : M f = 0) (hf : fsy M f = some k) (hs : so = (it M k 5).testBit f) (hm : sme T M f so = true) : cl1 T M f = (mkn M f 1 (if so = true then 1 else 0), 1) := by
  unfold cl1; rw [if_pos h, hf]
  subst hs
  exact if_pos hm
theorem cl1_unk {f k : Nat} {so : Bool} (h : M f = 0) (hf : fsy M f = some k) (hs : so = (it M k 5).testBit f) (hm : sme T M f so = false) : cl1 T M f = (mkn M f 3 0, 0) := by
  unfold cl1; rw [if_pos h, hf]
  subst hs
  exact if_neg (by rw [hm]; decide)
theorem cl1_EX {f : Nat} (hW : WT T) (h : EX T M) (hc : M 16 = 0) (hf : f < T 1) : EX T (cl1 T M f).1 ∧ (cl1 T M f).1 16 = 0 ∧ (cl1 T M f).2 ≤ 1 := by
  have w1 := hW.1.2.1
  by_cases z : M f = 0
  · cases hfs : fsy M f with
    | none => rw [cl1_none z hfs]; exact ⟨h, hc, Nat.zero_le _⟩
    | some k =>
      obtain ⟨so, hso⟩ : ∃ so, so = (it M k 5).testBit f := ⟨_, rfl⟩
      cases hs : sme T M f so
      · rw [cl1_unk z hfs hso hs]
        exact ⟨h.off hW hf (by omega), by show mkn M f 3 0 16 = 0; rw [mkn_hi (by omega) (by omega), hc], Nat.zero_le _⟩
      · rw [cl1_adm z hfs hso hs]
        refine ⟨h.make hW hf (Or.inl rfl) (by unfold kn; rw [z]; rfl) (by split <;> omega) (fun _ => by omega) ?_, by show mkn M f 1 _ 16 = 0; rw [mkn_hi (by omega) (by omega), hc], Nat.le_refl _⟩
        rw [dif1]; exact hs
  · rw [cl1_not z]; exact ⟨h, hc, Nat.zero_le _⟩
theorem cln_EX (hW : WT T) (h : EX T N) (hc : N 16 = 0) : ∀ f, f ≤ T 1 → EX T (cln T N f).1 ∧ (cln T N f).1 16 = 0 ∧ (cln T N f).2 ≤ f
  | 0, _ => ⟨h, hc, Nat.le_refl _⟩
  | f + 1, hf => by
    obtain ⟨e1, e2, e3⟩ := cln_EX hW h hc f (by omega)
    obtain ⟨g1, g2, g3⟩ := cl1_EX hW e1 e2 (show f < T 1 by omega)
    exact ⟨g1, g2, by show (cln T N f).2 + _ ≤ f + 1; omega⟩
/-- one fact, the class -/
theorem cclose1 (h : CR σ I L T M) {f n : Nat} (hc : M 16 = 0) (hf : f < T 1) :
    ∃ I1 r, mX11_close_l28f 100 (nI n) (nI f) (hk σ I L) = some (.inl (nI (n + (cl1 T M f).2), nI (f + 1), hk σ I1 (rowUp L 415 r))) ∧ CSt I1 (gsa σ) (cl1 T M f).1 ∧ ∀ x, x ≠ gsa σ → I1 x = I x := by
  have hW := h.2.1
  have hN := h.2.2.1
  have w1 := hW.1.2.1
  have hsa := h.1.2.1
  have hla := h.1.1
  have f8 : f < 8 := by omega
  have n4 := (hN.1 f f8).1
  have hd : mX11_close_l28f 100 (nI n) (nI f) (hk σ I L) = if M f = 0 then b2 (mX11_bySilence 100 (nI f) (hk σ I L)) (fun v14 h15 => mX11_close_b64 100 (nI n + v14) (nI f) h15) else mX11_close_b64 100 (nI n) (nI f) (hk σ I L) := by
    unfold mX11_close_l28f
    rw [gLa, gI_la hla, obind, h.2.2.2.1.1.2.1, c_lt hf (by omega), c_lt8 f8, gSa, howIs_ok h f8, obind, c_0 (by omega)]
  rw [hd]
  unfold mX11_close_b64
  by_cases z : M f = 0
  · rw [if_pos z]
    unfold mX11_bySilence
    have cf := cfsy_ok h f8
    cases hfs : fsy M f with
    | none =>
      rw [hfs] at cf
      have cf : mX5_firstSayer (gsa σ) (nI f) (hk σ I L) = some (-1) := cf
      rw [cl1_none z hfs]
      refine ⟨I, L 415, ?_, h.2.2.2.2, fun _ _ => rfl⟩
      rw [if_pos s100, gSa, cf, obind, if_pos (by decide), b2s, rowUp_id, nI_1, Int32.add_zero]; rfl
    | some k =>
      rw [hfs] at cf
      have cf : mX5_firstSayer (gsa σ) (nI f) (hk σ I L) = some (nI k) := cf
      have hk' := fsy_lt hfs
      have h18 := (hN.bkH hW).1
      obtain ⟨_, i5, _⟩ := WN.say hW hN hk'
      obtain ⟨_, _, _, _, _, s6⟩ := h.2.2.2.2.2 k hk'
      obtain ⟨so, hso⟩ : ∃ so, so = (it M k 5).testBit f := ⟨_, rfl⟩
      obtain ⟨r, el⟩ := leaves_ok (σ := σ) (L := L) h so f8
      have hb : ∀ how, how ≤ 4 → ∃ I', mX5_become (gsa σ) (nI f) (nI how) (bI so) (hk σ I (rowUp L 415 r)) = some (hk σ I' (rowUp L 415 r)) ∧ CSt I' (gsa σ) (mkn M f how (if (so && (decide (how = 1) || decide (how = 4))) = true then 1 else 0)) ∧ ∀ x, x ≠ gsa σ → I' x = I x := fun how hh => become_ok (σ := σ) (L := rowUp L 415 r) so hsa h.2.2.2.2 f8 hh
      cases hs : sme T M f so
      · obtain ⟨I1, e1, k1, k2⟩ := hb 3 (by omega)
        rw [cl1_unk z hfs hso hs]
        refine ⟨I1, r, ?_, ?_, k2⟩
        · rw [if_pos s100, gSa, cf, obind, if_neg (nI_pos (show k < 2 ^ 31 by omega)), gSa, gR_st hsa, obind, RF_st_14 σ hsa, at_r (SH_st6 hsa) (by omega) (by omega), obind, s6, has_nI (by omega) (by omega), obind, ← hso, el, b2s, gSa, bI_if0, hs]
          unfold mX11_bySilence_b54
          rw [if_pos rfl, show (3 : Int32) = nI 3 from rfl, e1, obind, if_pos (show bI false = 0 from rfl), b2s, nI_1, Int32.add_zero]; rfl
        · rw [show (if (so && (decide (3 = 1) || decide (3 = 4))) = true then 1 else 0) = 0 by cases so <;> rfl] at k1
          exact k1
      · obtain ⟨I1, e1, k1, k2⟩ := hb 1 (by omega)
        rw [cl1_adm z hfs hso hs]
        refine ⟨I1, r, ?_, ?_, k2⟩
        · have e1 : mX5_become (gsa σ) (nI f) (1 : Int32) (bI so) (hk σ I (rowUp L 415 r)) = some (hk σ I1 (rowUp L 415 r)) := e1
          rw [if_pos s100, gSa, cf, obind, if_neg (nI_pos (show k < 2 ^ 31 by omega)), gSa, gR_st hsa, obind, RF_st_14 σ hsa, at_r (SH_st6 hsa) (by omega) (by omega), obind, s6, has_nI (by omega) (by omega), obind, ← hso, el, b2s, gSa, bI_if0, hs]
          unfold mX11_bySilence_b54
          rw [if_neg nTF, e1, obind, if_neg (show ¬ bI true = 0 by decide), b2s, nI_1, nI_1]
        · rw [show (if (so && (decide (1 = 1) || decide (1 = 4))) = true then 1 else 0) = (if so = true then 1 else 0) by cases so <;> rfl] at k1
          exact k1
  · rw [cl1_not z]
    refine ⟨I, L 415, ?_, h.2.2.2.2, fun _ _ => rfl⟩
    rw [if_neg z, rowUp_id, nI_1]; rfl
end Close
