/-! WHAT A SUIT BEGINS WITH -/
def bgf (T : Nat → Nat) (k j : Nat) : Nat := if j = 0 then k else if j = 2 then T (16 + k) else if j = 3 then T (21 + k) else if j = 4 then T (51 + k) else if j = 5 then T (56 + k) else if j = 7 then k else 0
def bgk (T : Nat → Nat) (k : Nat) : Nat → Nat := fun i => if i = 18 then T 2 else if 19 ≤ i ∧ i < 19 + 8 * k then bgf T ((i - 19) / 8) ((i - 19) % 8) else 0
def bgN (T : Nat → Nat) : Nat → Nat := bgk T (T 2)
section Begins
variable {σ : Sg} {I I' J J' I1 I2 I3 Ja : Nat → Nat → Int32} {L L' M M' L1 L2 : Nat → Nat → Int64} {X : Nat → Nat} {n m i i2 la off t1 t2 fl pl dp h0 N kk lim s k b j w r c v : Nat} {W : Nat → List Nat} {T T' : Nat → Nat}
theorem bg_lo {i : Nat} (h : i < 18) : bgk T k i = 0 := by unfold bgk; rw [if_neg (by omega), if_neg (by omega)]
theorem bg_18 : bgk T k 18 = T 2 := if_pos rfl
theorem bg_at {x j : Nat} (hx : x < k) (hj : j < 8) : bgk T k (19 + 8 * x + j) = bgf T x j := by
  unfold bgk
  rw [if_neg (by omega), if_pos (by omega), show (19 + 8 * x + j - 19) / 8 = x by omega, show (19 + 8 * x + j - 19) % 8 = j by omega]
theorem bg_it {x j : Nat} (hx : x < T 2) (hj : j < 8) : it (bgN T) x j = bgf T x j := bg_at hx hj
theorem bg_kn (f : Nat) (hf : f < 8) : kn (bgN T) f = false := by
  have e : bgN T f = 0 := bg_lo (by omega)
  unfold kn
  rw [e]
  rfl
theorem bg_F : knF (bgN T) = 0 ∧ knS (bgN T) = 0 := by
  have h1 : ∀ i, i < 8 → kn (bgN T) i = (fun _ => false) i := fun i hi => bg_kn i hi
  constructor
  · unfold knF
    rw [bs_congr (q := fun _ => false) h1]
    rfl
  · unfold knS
    rw [bs_congr (q := fun _ => false) (fun i hi => by rw [bg_kn i hi]; rfl)]
    rfl
theorem bg_lft (T : Nat → Nat) (w : Nat) : lft T (bgN T) w = poss T w := by
  unfold lft agr
  rw [bg_F.1, bg_F.2, Nat.and_zero, decide_eq_true rfl, Bool.and_true]
theorem bg_EX (hW : WT T) : EX T (bgN T) := by
  obtain ⟨⟨w0, w1, w2, w3, w4, w5, w6, w7⟩, wf, wk, wp, wn, we, w, ww, wp2⟩ := id hW
  have e18 : bgN T 18 = T 2 := bg_18
  have lo : ∀ i, i < 18 → bgN T i = 0 := fun i hi => bg_lo hi
  refine ⟨⟨fun f hf => ⟨by rw [lo f (by omega)]; omega, by rw [lo (8 + f) (by omega)]; omega, fun h => by rw [lo (8 + f) (by omega)] at h; omega, fun _ => lo f (by omega)⟩, by rw [lo 16 (by omega)]; omega, by rw [lo 17 (by omega)]; omega, ⟨by rw [e18]; exact Nat.le_refl _, by rw [e18]; omega⟩, fun k hk' => ?_, w, ww, by rw [bg_lft]; exact wp2⟩, fun _ f hf => by rw [lo f (by omega)]; omega⟩
  rw [e18] at hk'
  obtain ⟨c1, c2, c3, c4, c5, c6, c7⟩ := wk k hk'
  rw [bg_it hk' (j := 0) (by omega), bg_it hk' (j := 1) (by omega), bg_it hk' (j := 2) (by omega), bg_it hk' (j := 3) (by omega), bg_it hk' (j := 4) (by omega), bg_it hk' (j := 5) (by omega), bg_it hk' (j := 6) (by omega), bg_it hk' (j := 7) (by omega)]
  show k < T 2 ∧ 0 ≤ bgN T 17 ∧ T (16 + k) ≤ 999 ∧ T (21 + k) ≤ 999 ∧ T (51 + k) < 2 ^ T 1 ∧ T (56 + k) &&& T (51 + k) = T (56 + k) ∧ 0 ≤ 1 ∧ k ≤ k ∧ it (bgN T) k 0 = k ∧ (k < T 2 → k = k ∧ k = k) ∧ (T 2 ≤ k → k < k) ∧ ∀ j, j < k → it (bgN T) j 1 ≤ 0
  refine ⟨hk', Nat.zero_le _, c1, c2, c5, c6, by omega, Nat.le_refl _, bg_it hk' (by omega), fun _ => ⟨rfl, rfl⟩, fun h => by omega, fun j hj => ?_⟩
  rw [bg_it (by omega) (by omega)]
  exact Nat.le_refl _
theorem SD.cst (h : SD I L la s T lim) (hs : s = 268 ∨ s = 275) (h2 : T 2 ≤ 5) : CSt I s (bgN T) := by
  obtain ⟨_, _, _, _, _, _, ⟨dj, d2⟩, dst⟩ := h
  have e18 : bgN T 18 = T 2 := bg_18
  have lo : ∀ i, i < 18 → bgN T i = 0 := fun i hi => bg_lo hi
  have z : ∀ (p : Nat → Bool) (n : Nat), (∀ i, i < n → p i = false) → nI (bs p n) = 0 := fun p n hp => by
    rw [bs_congr (q := fun _ => false) hp]
    have : ∀ n, bs (fun _ => false) n = 0 := by
      intro n
      induction n with
      | zero => rfl
      | succ n ih => show bs (fun _ => false) n ||| 0 = 0; rw [ih]; rfl
    rw [this]; rfl
  refine ⟨⟨?_, ?_, by rw [d2, e18], ?_, ?_, ?_, ?_, ?_, ?_⟩, fun k hk' => ?_⟩
  · rw [dj 0 (by omega) (by omega), lo 17 (by omega)]; rfl
  · rw [dj 1 (by omega) (by omega), lo 16 (by omega)]; rfl
  · rw [dj 3 (by omega) (by omega), e18]
    exact (z _ _ fun i hi => by rw [bg_it hi (by omega)]; rfl).symm
  · rw [dj 4 (by omega) (by omega)]
    exact (z _ _ fun i hi => by rw [lo i (by omega)]; rfl).symm
  · rw [dj 5 (by omega) (by omega)]
    exact (z _ _ fun i hi => by rw [lo i (by omega)]; rfl).symm
  · rw [dj 6 (by omega) (by omega)]
    exact (z _ _ fun i hi => by rw [lo i (by omega)]; rfl).symm
  · rw [dj 7 (by omega) (by omega)]
    exact (z _ _ fun i hi => by rw [lo i (by omega)]; rfl).symm
  · rw [dj 8 (by omega) (by omega), bg_F.2]; rfl
  · rw [e18] at hk'
    rw [bg_it hk' (j := 0) (by omega), bg_it hk' (j := 1) (by omega), bg_it hk' (j := 2) (by omega), bg_it hk' (j := 3) (by omega), bg_it hk' (j := 4) (by omega), bg_it hk' (j := 5) (by omega)]
    obtain ⟨g1, g2, g3, g4, g5, g6⟩ := dst k hk'
    exact ⟨g1, g2, g3, g4, g5, g6⟩
/-- the model begins -/
theorem begins_ok (hT : rT I T) (hW : WT T) : ∃ I', mX12_begins 433 (hk σ I L) = some (hk σ I' L) ∧ MI I' T (bgN T) ∧ I' 433 8 = 0 ∧ I' 433 39 = 0 ∧ (∀ i, i < 2 → I' 441 i = 0) ∧ (∀ x, x ≠ 433 → x ≠ 438 → x ≠ 441 → (x < 443 ∨ 447 < x) → I' x = I x) ∧ ∀ k, k ≠ 8 → k ≠ 39 → I' 433 k = I 433 k := by
  have t2 := hW.1.2.2.1
  have l2 : ∀ {I : Nat → Nat → Int32}, rT I T → ldI 434 (2 : Int32) (hk σ I L) = some (nI (T 2)) := fun {I} h => by rw [show (2 : Int32) = nI 2 from rfl, ldI_ok (n := 640) rfl (by omega) (by omega), hpI_hk, h 2 (by omega)]
  have hr : ∀ r, rT (rowUp I 438 r) T := fun r i hi => by rw [rowUp_ne _ _ (by omega)]; exact hT i hi
  have ld : ∀ r k, k < 640 → ldI 434 (nI k) (hk σ (rowUp I 438 r) L) = some (nI (T k)) := fun r k hk' => by rw [ldI_ok (n := 640) rfl hk' (by omega), hpI_hk, hr r k hk']
  -- what is behind the loops
  have tl : ∀ r, (∀ i, i < 83 → r i = nI (bgN T i)) → ∃ I', ((sI 12 8 433 (0 : Int32) (hk σ (rowUp I 438 r) L)).bind fun h7 => (gR 12 7 433 h7).bind fun v8 => (stZ v8 (0 : Int32) (0 : Int32) h7).bind fun h9 => (gR 12 7 433 h9).bind fun v10 => (stZ v10 (1 : Int32) (0 : Int32) h9).bind fun h11 => (sZ 12 39 433 (0 : Int32) h11).bind fun h12 => (mX12_laysTables 433 h12).bind fun h14 => some h14) = some (hk σ I' L) ∧ MI I' T (bgN T) ∧ I' 433 8 = 0 ∧ I' 433 39 = 0 ∧ (∀ i, i < 2 → I' 441 i = 0) ∧ (∀ x, x ≠ 433 → x ≠ 438 → x ≠ 441 → (x < 443 ∨ 447 < x) → I' x = I x) ∧ ∀ k, k ≠ 8 → k ≠ 39 → I' 433 k = I 433 k := fun r hr' => by
    obtain ⟨Ia, hIa⟩ : ∃ Ia, Ia = rowUp (rowUp (rowUp (rowUp I 438 r) 433 (updA (I 433) 8 0)) 441 (updA (updA (I 441) 0 0) 1 0)) 433 (updA (updA (I 433) 8 0) 39 0) := ⟨_, rfl⟩
    have hb : ∀ f, f < 8 → bgN T f ≤ 4 ∧ bgN T (8 + f) ≤ 1 := fun f hf => by
      have e1 : bgN T f = 0 := bg_lo (by omega)
      have e2 : bgN T (8 + f) = 0 := bg_lo (by omega)
      omega
    have a434 : rT Ia T := fun i hi => by rw [hIa, rowUp_ne _ _ (by omega), rowUp_ne _ _ (by omega), rowUp_ne _ _ (by omega), rowUp_ne _ _ (by omega)]; exact hT i hi
    have a438 : rN Ia (bgN T) := fun i hi => by rw [hIa, rowUp_ne _ _ (by omega), rowUp_ne _ _ (by omega), rowUp_ne _ _ (by omega), rowUp_same]; exact hr' i hi
    obtain ⟨P, c, t, q, r2, le, lt⟩ := laysTables_ok (σ := σ) (I := Ia) (L := L) a434 a438 hW hb
    obtain ⟨I', hI'⟩ : ∃ I', I' = rowUp (rowUp (rowUp (rowUp (rowUp Ia 443 P) 444 c) 445 t) 446 q) 447 r2 := ⟨_, rfl⟩
    rw [← hI'] at le lt
    have ix : ∀ x, (x < 443 ∨ 447 < x) → I' x = Ia x := fun x hx => by rw [hI', rowUp_ne _ _ (by omega), rowUp_ne _ _ (by omega), rowUp_ne _ _ (by omega), rowUp_ne _ _ (by omega), rowUp_ne _ _ (by omega)]
    have i433 : I' 433 = updA (updA (I 433) 8 0) 39 0 := by rw [ix 433 (by omega), hIa, rowUp_same]
    refine ⟨I', ?_, ⟨fun i hi => by rw [ix 434 (by omega)]; exact a434 i hi, fun i hi => by rw [ix 438 (by omega)]; exact a438 i hi, hW, (bg_EX hW).1, lt⟩, by rw [i433, updA_ne _ _ (by omega), updA_same], by rw [i433, updA_same], fun i hi => ?_, fun x a b c d => ?_, fun k a b => by rw [i433, updA_ne _ _ b, updA_ne _ _ a]⟩
    · have z : ∀ (J : Nat → Nat → Int32) (i : Nat), i < 2 → stZ 441 (nI i) (0 : Int32) (hk σ J L) = some (hk σ (rowUp J 441 (updA (J 441) i 0)) L) := fun J i hi => by rw [stZ_ok (n := 2) rfl hi (by omega) (Or.inl rfl), setI_hk, hpI_hk']
      have z0 : ∀ J, stZ 441 (0 : Int32) (0 : Int32) (hk σ J L) = some (hk σ (rowUp J 441 (updA (J 441) 0 0)) L) := fun J => z J 0 (by omega)
      have z1 : ∀ J, stZ 441 (1 : Int32) (0 : Int32) (hk σ J L) = some (hk σ (rowUp J 441 (updA (J 441) 1 0)) L) := fun J => z J 1 (by omega)
      rw [sI_ok s433, obind, setI_hk, hpI_hk', rowUp_ne (a := 438) (b := 433) _ _ (by omega), gM 7, RF_433_7, z0, obind, rowUp_ne (a := 433) (b := 441) _ _ (by omega), rowUp_ne (a := 438) (b := 441) _ _ (by omega), gM 7, RF_433_7, z1, obind, rowUp_two, rowUp_same, sZ_ok s433 (Or.inl rfl), obind, setI_hk, hpI_hk', rowUp_ne (a := 441) (b := 433) _ _ (by omega), rowUp_same, ← hIa, le, obind]
    · rw [ix 441 (by omega), hIa, rowUp_ne _ _ (by omega), rowUp_same]
      rcases (show i = 0 ∨ i = 1 by omega) with rfl | rfl
      · rfl
      · rfl
    · rw [ix x d, hIa, rowUp_ne _ _ a, rowUp_ne _ _ c, rowUp_ne _ _ a, rowUp_ne _ _ b]
  -- the loop over COUNTS
  have l36 : ∀ r, (∀ i, i < 83 → r i = nI (bgk T 0 i)) → ∃ I', mX12_begins_l36 433 0 (hk σ (rowUp I 438 r) L) = some (hk σ I' L) ∧ MI I' T (bgN T) ∧ I' 433 8 = 0 ∧ I' 433 39 = 0 ∧ (∀ i, i < 2 → I' 441 i = 0) ∧ (∀ x, x ≠ 433 → x ≠ 438 → x ≠ 441 → (x < 443 ∨ 447 < x) → I' x = I x) ∧ ∀ k, k ≠ 8 → k ≠ 39 → I' 433 k = I 433 k := fun r hr' => by
    unfold mX12_begins_l36
    obtain ⟨o, e, I', rfl, hI'⟩ := lp_inv (f := fun s : Int32 × Hp => mX12_begins_l36f 433 s.1 s.2) (T 2) (fun k st => ∃ r, st = (nI k, hk σ (rowUp I 438 r) L) ∧ ∀ i, i < 83 → r i = nI (bgk T k i))
      (fun o => ∃ I', o = hk σ I' L ∧ MI I' T (bgN T) ∧ I' 433 8 = 0 ∧ I' 433 39 = 0 ∧ (∀ i, i < 2 → I' 441 i = 0) ∧ (∀ x, x ≠ 433 → x ≠ 438 → x ≠ 441 → (x < 443 ∨ 447 < x) → I' x = I x) ∧ ∀ k, k ≠ 8 → k ≠ 39 → I' 433 k = I 433 k)
      (fun k st hk' hQ => by
        obtain ⟨r, rfl, hrk⟩ := hQ
        have pu : ∀ (q : Nat → Int32) (j : Nat) (v : Int32), j < 8 → mX12_puts 433 (nI k) (nI j) v (hk σ (rowUp I 438 q) L) = some (hk σ (rowUp I 438 (updA q (19 + 8 * k + j) v)) L) := fun q j v hj => puts_ok (by omega) hj
        refine ⟨(nI (k + 1), hk σ (rowUp I 438 (updA (updA (updA (updA (updA (updA r (19 + 8 * k + 0) (nI k)) (19 + 8 * k + 2) (nI (T (16 + k)))) (19 + 8 * k + 3) (nI (T (21 + k)))) (19 + 8 * k + 4) (nI (T (51 + k)))) (19 + 8 * k + 5) (nI (T (56 + k)))) (19 + 8 * k + 7) (nI k))) L), ?_, _, rfl, fun i hi => ?_⟩
        · show mX12_begins_l36f 433 (nI k) (hk σ (rowUp I 438 r) L) = _
          unfold mX12_begins_l36f
          rw [g434, l2 (hr r), obind, c_lt hk' (by omega), show (0 : Int32) = nI 0 from rfl, pu _ 0 _ (by omega), obind]
          rw [g434, show (16 : Int32) = nI 16 from rfl, nI_add, ld _ _ (by omega), obind, show (2 : Int32) = nI 2 from rfl, pu _ 2 _ (by omega), obind]
          rw [g434, show (21 : Int32) = nI 21 from rfl, nI_add, ld _ _ (by omega), obind, show (3 : Int32) = nI 3 from rfl, pu _ 3 _ (by omega), obind]
          rw [g434, show (51 : Int32) = nI 51 from rfl, nI_add, ld _ _ (by omega), obind, show (4 : Int32) = nI 4 from rfl, pu _ 4 _ (by omega), obind]
          rw [g434, show (56 : Int32) = nI 56 from rfl, nI_add, ld _ _ (by omega), obind, show (5 : Int32) = nI 5 from rfl, pu _ 5 _ (by omega), obind]
          rw [show (7 : Int32) = nI 7 from rfl, pu _ 7 _ (by omega), obind, nI_1]
        · simp only [updA_at]
          by_cases g : 19 + 8 * k ≤ i ∧ i < 27 + 8 * k
          · obtain ⟨j, hj⟩ : ∃ j, i = 19 + 8 * k + j := ⟨i - (19 + 8 * k), by omega⟩
            subst hj
            have j8 : j < 8 := by omega
            rw [bg_at (k := k + 1) (by omega) j8]
            have z : j = 1 ∨ j = 6 → r (19 + 8 * k + j) = 0 := fun hj => by
              rw [hrk _ hi]
              unfold bgk
              rw [if_neg (by omega), if_neg (by omega)]
              rfl
            unfold bgf
            rcases (show j = 0 ∨ j = 1 ∨ j = 2 ∨ j = 3 ∨ j = 4 ∨ j = 5 ∨ j = 6 ∨ j = 7 by omega) with rfl | rfl | rfl | rfl | rfl | rfl | rfl | rfl
            · simp
            · have z := z (Or.inl rfl)
              simp [z]
              rfl
            · simp
            · simp
            · simp
            · simp
            · have z := z (Or.inr rfl)
              simp [z]
              rfl
            · simp
          · rw [if_neg (by omega), if_neg (by omega), if_neg (by omega), if_neg (by omega), if_neg (by omega), if_neg (by omega), hrk i hi]
            unfold bgk
            by_cases e : i = 18
            · rw [if_pos e, if_pos e]
            · rw [if_neg e, if_neg e]
              by_cases e2 : 19 ≤ i ∧ i < 19 + 8 * k
              · rw [if_pos e2, if_pos (by omega)]
              · rw [if_neg e2, if_neg (by omega)])
      (fun st hQ => by
        obtain ⟨r, rfl, hrk⟩ := hQ
        obtain ⟨I', e, g⟩ := tl r hrk
        refine ⟨hk σ I' L, ?_, I', rfl, g⟩
        show mX12_begins_l36f 433 (nI (T 2)) (hk σ (rowUp I 438 r) L) = _
        unfold mX12_begins_l36f
        rw [g434, l2 (hr r), obind, c_nlt (Nat.le_refl _) (by omega), e, xts])
      (s := ((0 : Int32), hk σ (rowUp I 438 r) L)) ⟨r, rfl, hr'⟩
    exact ⟨I', e, hI'⟩
  have h0 : hk σ I L = hk σ (rowUp I 438 (I 438)) L := by rw [rowUp_id]
  unfold mX12_begins mX12_begins_l2
  rw [if_pos s433, h0]
  obtain ⟨o, e, I', rfl, hI'⟩ := lp_inv (f := fun s : Int32 × Hp => mX12_begins_l2f 433 s.1 s.2) 83 (fun k st => ∃ r, st = (nI k, hk σ (rowUp I 438 r) L) ∧ ∀ i, i < k → r i = 0)
    (fun o => ∃ I', o = hk σ I' L ∧ MI I' T (bgN T) ∧ I' 433 8 = 0 ∧ I' 433 39 = 0 ∧ (∀ i, i < 2 → I' 441 i = 0) ∧ (∀ x, x ≠ 433 → x ≠ 438 → x ≠ 441 → (x < 443 ∨ 447 < x) → I' x = I x) ∧ ∀ k, k ≠ 8 → k ≠ 39 → I' 433 k = I 433 k)
    (fun k st hk' hQ => by
      obtain ⟨r, rfl, hr'⟩ := hQ
      refine ⟨_, ?_, updA r k 0, rfl, fun i hi => ?_⟩
      · show mX12_begins_l2f 433 (nI k) (hk σ (rowUp I 438 r) L) = _
        unfold mX12_begins_l2f
        rw [if_pos (show nI k < (83 : Int32) from nI_lt (b := 83) hk' (by omega)), g438, st438 _ _ hk', obind, nI_1]
      · rw [updA_at]
        by_cases q : i = k
        · rw [if_pos q]
        · rw [if_neg q]; exact hr' i (by omega))
    (fun st hQ => by
      obtain ⟨r, rfl, hr'⟩ := hQ
      obtain ⟨I', e, g⟩ := l36 (updA r 18 (nI (T 2))) (fun i hi => by
        rw [updA_at]
        unfold bgk
        by_cases q : i = 18
        · rw [if_pos q, if_pos q]
        · rw [if_neg q, if_neg q, if_neg (by omega), hr' i hi]; rfl)
      refine ⟨hk σ I' L, ?_, I', rfl, g⟩
      show mX12_begins_l2f 433 (nI 83) (hk σ (rowUp I 438 r) L) = _
      unfold mX12_begins_l2f
      rw [if_neg (show ¬ nI 83 < (83 : Int32) by decide), g438, g434, l2 (hr r), obind, show (18 : Int32) = nI 18 from rfl, st438 _ _ (by omega), obind, e, xts])
    (s := ((0 : Int32), hk σ (rowUp I 438 (I 438)) L)) ⟨_, rfl, fun i hi => absurd hi (Nat.not_lt_zero _)⟩
  exact ⟨I', e, hI'⟩
end Begins
