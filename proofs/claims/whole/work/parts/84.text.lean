/-! TEXTS: the tape, faults, what was asked, the names of facts, the reserved words -/
def TX (I : Nat → Nat → Int32) (X : Nat → Nat) (n : Nat) : Prop := n ≤ 480 ∧ I 101 1 = nI n ∧ I 433 10 = nI n ∧ ∀ i, i < n → X i < 256 ∧ I 102 i = nI (X i) ∧ I 442 i = nI (X i)
def FA (I : Nat → Nat → Int32) (fl pl : Nat) : Prop := fl ≤ 5 ∧ pl ≤ 480 ∧ I 282 7 = nI fl ∧ I 433 19 = nI fl ∧ (fl = 0 → I 433 20 = -1) ∧ (fl ≠ 0 → I 282 8 = nI pl ∧ I 433 20 = nI pl)
def AS (I : Nat → Nat → Int32) (L : Nat → Nat → Int64) : Prop := (I 433 39 = 0 ∧ L 100 17 = 0) ∨ (I 433 39 = 1 ∧ L 433 40 = L 100 16 ∧ L 433 41 = L 100 17 ∧ lg_cmp (L 100 17) 0 ≠ 0)
/-- letters packed, five bits each, and to the base of 27 -/
def pk5 : List Nat → Nat
  | [] => 0
  | c :: l => 32 * pk5 l + c
def pk27 : List Nat → Nat
  | [] => 0
  | c :: l => 27 * pk27 l + c
def wrd (l : List Nat) : Prop := l.length ≤ 6 ∧ ∀ c ∈ l, 1 ≤ c ∧ c ≤ 26
def NM (I : Nat → Nat → Int32) (L : Nat → Nat → Int64) (la m : Nat) (W : Nat → List Nat) : Prop := ∀ f, f < m → wrd (W f) ∧ I (la + 2) f = nI (pk5 (W f)) ∧ L 436 f = lN (pk27 (W f))
/-- the reserved words, the last letter first -/
def rsW : List (List Nat) := [[20, 3, 1, 6], [18, 5, 22, 5, 14], [20, 14, 21, 15, 3], [8, 20, 18, 15, 23], [5, 19, 15, 18, 1], [19, 4, 5, 5, 14], [1, 5, 12, 16], [19, 25, 1, 19], [5, 13, 1, 19], [20, 9, 13, 9, 12], [6, 15]]
def RS (I : Nat → Nat → Int32) : Prop := ∀ w, w < 11 → I 107 w = nI (pk5 (rsW.getD w []))
def SG (σ : Sg) : Prop := isLa (gla σ) ∧ isLa (glb σ) ∧ gla σ ≠ glb σ ∧ isSt (gsa σ) ∧ gsa σ < 282 ∧ isSt (gsb σ) ∧ gsb σ < 282 ∧ gsa σ ≠ gsb σ
section Text
variable {σ : Sg} {I I' J I1 I2 I3 Ja : Nat → Nat → Int32} {L L' L1 L2 : Nat → Nat → Int64} {T N N' M : Nat → Nat} {a a' : Nat} {P P' : Nat → Nat → Nat} {K : Nat → Bool} {Q : Nat → Nat → Nat}
theorem TX.f0 {X : Nat → Nat} {n : Nat} (h : TX I X n) (f : Fr0 I L I' L') : TX I' X n :=
  ⟨h.1, by rw [(f.1 101 (by unfold KR; omega)).1]; exact h.2.1, by rw [f.2.1 10 (by omega) (by omega) (by omega)]; exact h.2.2.1, fun i hi => by rw [(f.1 102 (by unfold KR; omega)).1, (f.1 442 (by unfold KR; omega)).1]; exact h.2.2.2 i hi⟩
theorem FA.f0 {fl pl : Nat} (h : FA I fl pl) (f : Fr0 I L I' L') : FA I' fl pl := by
  unfold FA
  rw [(f.1 282 (by unfold KR; omega)).1, f.2.1 19 (by omega) (by omega) (by omega), f.2.1 20 (by omega) (by omega) (by omega)]
  exact h
theorem AS.f0 (h : AS I L) (f : Fr0 I L I' L') : AS I' L' := by
  unfold AS
  rw [f.2.1 39 (by omega) (by omega) (by omega), (f.1 100 (by unfold KR; omega)).2, f.2.2 40 (by omega) (by omega), f.2.2 41 (by omega) (by omega)]
  exact h
theorem NM.f0 {la m : Nat} {W : Nat → List Nat} (hla : isLa la) (h : NM I L la m W) (f : Fr0 I L I' L') : NM I' L' la m W := fun g hg => by
  rw [(f.1 (la + 2) (by unfold KR; omega)).1, (f.1 436 (by unfold KR; omega)).2]
  exact h g hg
theorem RS.f0 (h : RS I) (f : Fr0 I L I' L') : RS I' := fun w hw => by rw [(f.1 107 (by unfold KR; omega)).1]; exact h w hw
theorem s101 : (hpS (hk σ I L) 101).1 = 8 := rfl
theorem g101 (k : Nat) {ρ : Type} (f : Nat → Option ρ) : (gR 7 k 101 (hk σ I L)).bind f = f (RF σ 101 k) := rfl
theorem gTxt {ρ : Type} (f : Nat → Option ρ) : (gR 11 0 100 (hk σ I L)).bind f = f 101 := rfl
/-- a byte of four -/
theorem byte4 (v : Int32) {i : Nat} (hi : i < 4) : ∃ m, m < 256 ∧ (ushrI v ((24 : Int32) - (8 : Int32) * nI i)) &&& (255 : Int32) = nI m ∧ (v >>> (nI (24 - 8 * i) &&& 31)) &&& (255 : Int32) = nI m := by
  obtain ⟨n, hn, e⟩ := wb_of32 (v >>> (nI (24 - 8 * i) &&& 31))
  have m1 : (v >>> (nI (24 - 8 * i) &&& 31)) &&& (255 : Int32) = nI (n &&& 255) := by
    rw [e, show (255 : Int32) = nI 255 from rfl, nx_and]
  refine ⟨n &&& 255, Nat.lt_of_le_of_lt Nat.and_le_right (by omega), ?_, m1⟩
  rw [← m1, show (24 : Int32) = nI 24 from rfl, show (8 : Int32) = nI 8 from rfl, pk_mul, nI_sub (by omega)]
  apply b_ext; intro j hj
  rw [b_and, b_and, b_255]
  by_cases h8 : j < 8
  · rw [show bt (ushrI v (nI (24 - 8 * i))) j = bt v (24 - 8 * i + j) from b_ushr _ (by omega) v j, b_sshr _ (by omega) v hj, if_pos (by omega)]
  · rw [decide_eq_false h8, Bool.and_false, Bool.and_false]
/-- sign -/
theorem q_sign {X : Nat → Nat} {n : Nat} (h : TX I X n) (v : Int32) : ∃ w I1 I2 X' n', mX11_sign 100 v (hk σ I L) = some (w, hk σ I1 L) ∧ mX12_sign 433 v (hk σ I1 L) = some (w, hk σ I2 L) ∧ TX I2 X' n' ∧ (∀ x, x ≠ 101 → x ≠ 102 → x ≠ 433 → x ≠ 442 → I2 x = I x) ∧ (∀ k, k ≠ 10 → I2 433 k = I 433 k) ∧ (∀ k, k ≠ 1 → I2 101 k = I 101 k) ∧ I1 1 = I 1 := by
  obtain ⟨hn, h1, h2, hX⟩ := id h
  by_cases hb : 480 < n + 4
  · refine ⟨-1, I, I, X, n, ?_, ?_, h, fun _ _ _ _ _ => rfl, fun _ _ => rfl, fun _ _ => rfl, rfl⟩
    · unfold mX11_sign mX7_take
      rw [if_pos s100, gTxt, if_pos s101, gI_o 1 (n := 2) rfl, obind, h1, show (4 : Int32) = nI 4 from rfl, nI_add, if_pos (show (480 : Int32) < nI (n + 4) from nI_lt (a := 480) hb (by omega)), b2s, if_pos rfl]
    · unfold mX12_sign
      rw [if_pos s433, gI_ok s433, obind, hpI_hk, h2, show (4 : Int32) = nI 4 from rfl, nI_add, if_pos (show (480 : Int32) < nI (n + 4) from nI_lt (a := 480) hb (by omega))]
  · have hnb : ¬ (480 : Int32) < nI (n + 4) := nI_nlt (a := 480) (b := n + 4) (by omega) (by omega)
    obtain ⟨B, hB⟩ : ∃ B : Nat → Nat, ∀ i, i < 4 → B i < 256 ∧ (ushrI v ((24 : Int32) - (8 : Int32) * nI i)) &&& (255 : Int32) = nI (B i) ∧ (v >>> (nI (24 - 8 * i) &&& 31)) &&& (255 : Int32) = nI (B i) := by
      obtain ⟨b0, h0⟩ := byte4 v (i := 0) (by omega)
      obtain ⟨b1, h1⟩ := byte4 v (i := 1) (by omega)
      obtain ⟨b2, h2⟩ := byte4 v (i := 2) (by omega)
      obtain ⟨b3, h3⟩ := byte4 v (i := 3) (by omega)
      refine ⟨fun i => if i = 0 then b0 else if i = 1 then b1 else if i = 2 then b2 else b3, fun i hi => ?_⟩
      rcases (show i = 0 ∨ i = 1 ∨ i = 2 ∨ i = 3 by omega) with rfl | rfl | rfl | rfl
      · exact h0
      · exact h1
      · exact h2
      · exact h3
    have cls : ∃ r, mX7_take 101 v (hk σ I L) = some (1, hk σ (rowUp (rowUp I 102 r) 101 (updA (I 101) 1 (nI (n + 4)))) L) ∧ ∀ j, r j = if n ≤ j ∧ j < n + 4 then nI (B (j - n)) else I 102 j := by
      unfold mX7_take mX7_take_l16
      rw [if_pos s101, gI_o 1 (n := 2) rfl, obind, h1, show (4 : Int32) = nI 4 from rfl, nI_add, if_neg hnb]
      obtain ⟨o, e, r, rfl, hr⟩ := lp_inv (f := fun s : Int32 × Hp => mX7_take_l16f 101 v s.1 s.2) 4 (fun i st => ∃ r, st = (nI i, hk σ (rowUp I 102 r) L) ∧ ∀ j, r j = if n ≤ j ∧ j < n + i then nI (B (j - n)) else I 102 j)
        (fun o => ∃ r, o = (1, hk σ (rowUp (rowUp I 102 r) 101 (updA (I 101) 1 (nI (n + 4)))) L) ∧ ∀ j, r j = if n ≤ j ∧ j < n + 4 then nI (B (j - n)) else I 102 j)
        (fun i st hi hQ => by
          obtain ⟨r, rfl, hr⟩ := hQ
          refine ⟨_, ?_, updA r (n + i) (nI (B i)), rfl, fun j => ?_⟩
          · show mX7_take_l16f 101 v (nI i) (hk σ (rowUp I 102 r) L) = _
            unfold mX7_take_l16f
            rw [show (4 : Int32) = nI 4 from rfl, c_lt hi (by omega), g101, RF_101_0, gI_o 1 (n := 2) rfl, obind, rowUp_ne _ _ (by omega), h1, nI_add, (hB i hi).2.1, put_nI (n := 480) rfl (by omega) (by omega), obind, setI_hk, rowUp_two, hpI_hk', rowUp_same, nI_1]
          · rw [updA_at, hr]
            by_cases e : j = n + i
            · subst e; rw [if_pos rfl, if_pos (by omega), Nat.add_sub_cancel_left]
            · rw [if_neg e]
              by_cases q : n ≤ j ∧ j < n + i
              · rw [if_pos q, if_pos (by omega)]
              · rw [if_neg q, if_neg (by omega)])
        (fun st hQ => by
          obtain ⟨r, rfl, hr⟩ := hQ
          refine ⟨_, ?_, r, rfl, hr⟩
          show mX7_take_l16f 101 v (nI 4) (hk σ (rowUp I 102 r) L) = _
          unfold mX7_take_l16f
          rw [if_neg (by decide), gI_o 1 (n := 2) rfl, obind, rowUp_ne _ _ (by omega), h1, show (4 : Int32) = nI 4 from rfl, nI_add, sI_ok s101, obind, setI_hk, hpI_hk', rowUp_ne _ _ (by omega), xts]) (s := (0, hk σ (rowUp I 102 (I 102)) L)) ⟨I 102, rfl, fun j => by rw [if_neg (by omega)]⟩
      rw [rowUp_id] at e
      exact ⟨r, e, hr⟩
    obtain ⟨r, ec, hr⟩ := cls
    obtain ⟨I1, hI1⟩ : ∃ I1, I1 = rowUp (rowUp I 102 r) 101 (updA (I 101) 1 (nI (n + 4))) := ⟨_, rfl⟩
    rw [← hI1] at ec
    have f1 : ∀ x, x ≠ 101 → x ≠ 102 → I1 x = I x := fun x a b => by rw [hI1, rowUp_ne _ _ a, rowUp_ne _ _ b]
    have mdl : ∃ q u, mX12_sign_l17 433 v (24 : Int32) (hk σ I1 L) = some (nI (n + 4), hk σ (rowUp (rowUp I1 442 q) 433 u) L) ∧ (∀ j, q j = if n ≤ j ∧ j < n + 4 then nI (B (j - n)) else I 442 j) ∧ u 10 = nI (n + 4) ∧ ∀ k, k ≠ 10 → u k = I 433 k := by
      unfold mX12_sign_l17
      obtain ⟨o, e, q, u, rfl, hq⟩ := lp_invX (f := fun s : Int32 × Hp => mX12_sign_l17f 433 v s.1 s.2) 4 (fun i st => ∃ q u, st = ((if i = 4 then (-8 : Int32) else nI (24 - 8 * i)), hk σ (rowUp (rowUp I1 442 q) 433 u) L) ∧ (∀ j, q j = if n ≤ j ∧ j < n + i then nI (B (j - n)) else I 442 j) ∧ u 10 = nI (n + i) ∧ ∀ k, k ≠ 10 → u k = I 433 k)
        (fun o => ∃ q u, o = (nI (n + 4), hk σ (rowUp (rowUp I1 442 q) 433 u) L) ∧ (∀ j, q j = if n ≤ j ∧ j < n + 4 then nI (B (j - n)) else I 442 j) ∧ u 10 = nI (n + 4) ∧ ∀ k, k ≠ 10 → u k = I 433 k)
        (fun i st hi hQ => by
          obtain ⟨q, u, rfl, hq, hu, huk⟩ := hQ
          have st442 : ∀ (q : Nat → Int32) (u : Nat → Int32) k w, k < 480 → stI 442 (nI k) w (hk σ (rowUp (rowUp I1 442 q) 433 u) L) = some (hk σ (rowUp (rowUp I1 442 (updA q k w)) 433 u) L) := fun q u k w hk' => by
            rw [stI_ok (n := 480) rfl hk' (by omega), setI_hk, hpI_hk', rowUp_ne _ _ (by omega), rowUp_same]
            congr 2
            funext x
            rw [rowUp_at, rowUp_at, rowUp_at, rowUp_at, rowUp_at]
            by_cases e : x = 442
            · subst e; rw [if_pos rfl, if_neg (by omega), if_pos rfl]
            · rw [if_neg e, if_neg e, if_neg e]
          refine Or.inl ⟨_, ?_, updA q (n + i) (nI (B i)), updA u 10 (nI (n + (i + 1))), rfl, fun j => ?_, updA_same _ _ _, fun k hk' => by rw [updA_ne _ _ hk', huk k hk']⟩
          · show mX12_sign_l17f 433 v (if i = 4 then (-8 : Int32) else nI (24 - 8 * i)) (hk σ (rowUp (rowUp I1 442 q) 433 u) L) = _
            have nx : nI (24 - 8 * i) + (-8 : Int32) = if i + 1 = 4 then (-8 : Int32) else nI (24 - 8 * (i + 1)) := by
              rcases (show i = 0 ∨ i = 1 ∨ i = 2 ∨ i = 3 by omega) with rfl | rfl | rfl | rfl <;> decide
            unfold mX12_sign_l17f
            rw [if_neg (show ¬ i = 4 by omega), if_neg (nI_pos (show 24 - 8 * i < 2 ^ 31 by omega)), gM 9, RF_433_9, gI_ok s433, obind, hpI_hk, rowUp_same, hu, (hB i hi).2.2, st442 _ _ _ _ (by omega), obind, gI_ok s433, obind, hpI_hk, rowUp_same, hu, nI_1, sI_ok s433, obind, setI_hk, rowUp_two, hpI_hk', rowUp_same, nx, Nat.add_assoc]
          · rw [updA_at, hq]
            by_cases e : j = n + i
            · subst e; rw [if_pos rfl, if_pos (by omega), Nat.add_sub_cancel_left]
            · rw [if_neg e]
              by_cases q : n ≤ j ∧ j < n + i
              · rw [if_pos q, if_pos (by omega)]
              · rw [if_neg q, if_neg (by omega)])
        (fun st hQ => by
          obtain ⟨q, u, rfl, hq, hu, huk⟩ := hQ
          refine ⟨_, ?_, q, u, rfl, hq, hu, huk⟩
          show mX12_sign_l17f 433 v (if 4 = 4 then (-8 : Int32) else nI (24 - 8 * 4)) (hk σ (rowUp (rowUp I1 442 q) 433 u) L) = _
          unfold mX12_sign_l17f
          rw [if_pos (show (4 : Nat) = 4 from rfl), if_pos (by decide), gI_ok s433, obind, hpI_hk, rowUp_same, hu, xts]) (i := 0) (s := (24, hk σ (rowUp (rowUp I1 442 (I1 442)) 433 (I1 433)) L)) (Nat.zero_le _) ⟨I1 442, I1 433, rfl, fun j => by rw [if_neg (by omega), f1 442 (by omega) (by omega)], by rw [f1 433 (by omega) (by omega)]; exact h2, fun k _ => by rw [f1 433 (by omega) (by omega)]⟩
      rw [rowUp_id, rowUp_id] at e
      exact ⟨q, u, e, hq⟩
    obtain ⟨q, u, em, hq, hu, huk⟩ := mdl
    refine ⟨nI (n + 4), I1, rowUp (rowUp I1 442 q) 433 u, fun j => if n ≤ j ∧ j < n + 4 then B (j - n) else X j, n + 4, ?_, ?_, ⟨by omega, ?_, by rw [rowUp_same, hu], fun i hi => ?_⟩, fun x a b c d => by rw [rowUp_ne _ _ c, rowUp_ne _ _ d, f1 x a b], fun k hk' => by rw [rowUp_same, huk k hk'], fun k hk' => by rw [rowUp_ne _ _ (by omega), rowUp_ne _ _ (by omega), hI1, rowUp_same, updA_ne _ _ hk'], f1 1 (by omega) (by omega)⟩
    · have i11 : I1 101 1 = nI (n + 4) := by rw [hI1, rowUp_same, updA_same]
      unfold mX11_sign
      rw [if_pos s100, gTxt, ec, b2s, if_neg (show ¬ (1 : Int32) = 0 by decide), gTxt, gI_o 1 (n := 2) rfl, obind, i11]
    · unfold mX12_sign
      rw [if_pos s433, gI_ok s433, obind, hpI_hk, f1 433 (by omega) (by omega), h2, show (4 : Int32) = nI 4 from rfl, nI_add, if_neg hnb]
      exact em
    · rw [rowUp_ne _ _ (by omega), rowUp_ne _ _ (by omega), hI1, rowUp_same, updA_same]
    · rw [rowUp_ne _ _ (by omega), rowUp_ne _ _ (by omega), rowUp_ne _ _ (by omega), rowUp_same, hI1, rowUp_ne _ _ (by omega), rowUp_same, hr, hq]
      by_cases e : n ≤ i ∧ i < n + 4
      · simp only [if_pos e]
        exact ⟨(hB (i - n) (by omega)).1, trivial, trivial⟩
      · simp only [if_neg e]
        exact hX i (by omega)
end Text
