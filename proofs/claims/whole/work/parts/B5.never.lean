section Never
variable {σ τ : Sg} {I I' J J' I1 I2 I3 Ja : Nat → Nat → Int32} {L L' M M' L1 L2 : Nat → Nat → Int64} {X : Nat → Nat} {n m i i2 la off t1 t2 fl pl dp h0 N kk lim s : Nat} {W : Nat → List Nat} {T T' : Nat → Nat}
theorem may_mod {t : Nat} (h3 : ∀ k, k < T 3 → T (117 + T (78 + k)) ≤ T 7) (hl : ∀ s, s < T 7 → cT T s < 100 → cT T s < t) (w : Nat) : may T w = may T (w % 2 ^ t) := by
  unfold may
  refine allB_congr fun k hk' => ?_
  have h := h3 k hk'
  have : ev T (T (78 + k)) w = ev T (T (78 + k)) (w % 2 ^ t) := by
    unfold ev evP
    rw [runV_cg (q := qw w) (q' := qw (w % 2 ^ t)) (cd := cT T) (cd' := cT T) (a := T (84 + T (78 + k))) (m := T (117 + T (78 + k)) - T (84 + T (78 + k))) (tb := t) (fun _ _ => rfl) (fun f hf => by unfold qw; rw [Nat.testBit_mod_two_pow, decide_eq_true hf, Bool.true_and]) (fun s hs h => hl _ (by omega) h) _ (Nat.le_refl _)]
  rw [this]
theorem may_any {t : Nat} (ht : t ≤ 8) (h3 : ∀ k, k < T 3 → T (117 + T (78 + k)) ≤ T 7) (hl : ∀ s, s < T 7 → cT T s < 100 → cT T s < t) : anyB (may T) 256 = anyB (may T) (2 ^ t) := by
  have p := ev_lt ht
  rw [Bool.eq_iff_iff, anyB_iff, anyB_iff]
  constructor
  · rintro ⟨w, _, h⟩
    exact ⟨w % 2 ^ t, Nat.mod_lt _ (Nat.two_pow_pos t), by rw [← may_mod h3 hl]; exact h⟩
  · rintro ⟨w, h1, h2⟩
    exact ⟨w, by omega, h2⟩
theorem PE.j443 (h : PE I J M X n m i la off W t1 t2 T dp) (P : Nat → Int32) : PE I (rowUp J 443 P) M X n m i la off W t1 t2 T dp := by
  have e : ∀ x, x ≠ 443 → rowUp J 443 P x = J x := fun x hx => rowUp_ne _ _ hx
  refine ⟨h.1, ⟨⟨h.2.1.1.1, by rw [e 433 (by omega)]; exact h.2.1.1.2.1, fun j hj => by rw [e 442 (by omega)]; exact h.2.1.1.2.2 j hj⟩, ⟨by rw [e 433 (by omega)]; exact h.2.1.2.1.1, by rw [e 433 (by omega)]; exact h.2.1.2.1.2.1, by rw [e 433 (by omega)]; exact h.2.1.2.1.2.2.1, by rw [e 433 (by omega)]; exact h.2.1.2.1.2.2.2.1, h.2.1.2.1.2.2.2.2⟩, by rw [e 433 (by omega)]; exact h.2.1.2.2⟩, h.2.2.1, ?_, fun j hj => by rw [e 435 (by omega)]; exact h.2.2.2.2.1 j hj, h.2.2.2.2.2.1, h.2.2.2.2.2.2.1, by rw [e 433 (by omega)]; exact h.2.2.2.2.2.2.2⟩
  have := h.2.2.2.1
  unfold MN at this ⊢
  rw [e 435 (by omega)]
  exact this
theorem MFr.u443 (P : Nat → Int32) : MFr J M (rowUp J 443 P) M := ⟨fun x a b c d => ⟨rowUp_ne _ _ d, rfl⟩, fun k _ _ => by rw [rowUp_ne _ _ (by omega)], fun _ _ => rfl, rfl, rowUp_ne _ _ (by omega)⟩
theorem n36_bad (h : MFl J fl pl) (a b : Int32) : mX12_readNever_b36 433 a b (hk τ J M) = some (hk τ J M) := by
  unfold mX12_readNever_b36
  rw [gMI, obind, if_neg h.ne]
theorem gSee {ρ : Type} (f : Nat → Option ρ) : (gR 2 1 282 (hk σ I L)).bind f = f 108 := rfl
theorem gSp {ρ : Type} (f : Nat → Option ρ) : (gR 2 2 282 (hk σ I L)).bind f = f 283 := rfl
theorem wSpa : isW (hk σ I L) 283 284 := ⟨rfl, rfl, rfl⟩
/-- the model's look for a world -/
theorem mlook_ok (h : PE I J M X n m i la off W t1 t2 T dp) (h1 : T 1 = t1) (h3 : T 3 ≤ 6) (hwf : ∀ k, k < T 3 → T (78 + k) < 33 ∧ wfE (cT T) (T (84 + T (78 + k))) (T (117 + T (78 + k))) ∧ T (117 + T (78 + k)) ≤ 490) (at0 : Nat) (h4 : at0 ≤ 480) :
    ∃ J' M', mX12_readNever_l74 433 (nI at0) 0 0 (hk τ J M) = some (hk τ J' M') ∧
      (anyB (may T) (2 ^ t1) = true → ∃ P, PMk J' M' X n (i + 1) ∧ MF2 (rowUp J 443 P) M J' M') ∧ (anyB (may T) (2 ^ t1) = false → MFl J' 5 at0 ∧ MFr J M J' M') := by
  have ht8 := h.2.2.2.1.1
  have p256 := ev_lt ht8
  have hB1 : ∀ P, ∃ J' M', mX12_readNever_b108 433 (nI at0) (bI true) (hk τ (rowUp J 443 P) M) = some (hk τ J' M') ∧ PMk J' M' X n (i + 1) ∧ MF2 (rowUp J 443 P) M J' M' := fun P => by
    obtain ⟨u, w, e, r⟩ := PMk.ps (σ := τ) (h.j443 P).2.1
    refine ⟨_, _, ?_, r⟩
    unfold mX12_readNever_b108 mX12_readNever_b122
    rw [if_neg (show ¬ bI true = 0 by decide), e, obind]
  have hB0 : ∀ P, ∃ J', mX12_readNever_b108 433 (nI at0) (bI false) (hk τ (rowUp J 443 P) M) = some (hk τ J' M) ∧ MFl J' 5 at0 ∧ MFr J M J' M := fun P => by
    obtain ⟨J1, hJ1⟩ : ∃ J1, J1 = rowUp (rowUp J 443 P) 433 (updA (updA ((rowUp J 443 P) 433) 17 5) 18 (nI at0)) := ⟨_, rfl⟩
    have b : MFl J1 5 at0 := ⟨by omega, by omega, h4, by rw [hJ1, rowUp_same, updA_ne _ _ (by omega), updA_same]; rfl, by rw [hJ1, rowUp_same, updA_same]⟩
    refine ⟨J1, ?_, b, ?_⟩
    · unfold mX12_readNever_b108 mX12_readNever_b122
      rw [if_pos (show bI false = 0 from rfl), sI_ok s433, obind, setI_hk, hpI_hk', sI_ok s433, obind, setI_hk, hpI_hk', rowUp_two, rowUp_same, ← hJ1, passes_bad b, obind]
    · refine ⟨fun x a b c d => ⟨by rw [hJ1, rowUp_ne _ _ a, rowUp_ne _ _ d], rfl⟩, fun k a b => by rw [hJ1, rowUp_same, updA_ne _ _ (by omega), updA_ne _ _ (by omega), rowUp_ne _ _ (by omega)], fun _ _ => rfl, rfl, by rw [hJ1, rowUp_ne _ _ (by omega), rowUp_ne _ _ (by omega)]⟩
  have hBs : ∀ b P, ∃ hp, mX12_readNever_b108 433 (nI at0) (bI b) (hk τ (rowUp J 443 P) M) = some hp := fun b P => by
    cases b
    · obtain ⟨J', e, _⟩ := hB0 P; exact ⟨_, e⟩
    · obtain ⟨J', M', e, _⟩ := hB1 P; exact ⟨_, e⟩
  have l1 : ∀ P, ldI 435 (1 : Int32) (hk τ (rowUp J 443 P) M) = some (nI t1) := fun P => by
    rw [show (1 : Int32) = nI 1 from rfl, ld435 (h.j443 P).2.2.2.2.1 (by omega), h1]
  have key : ∃ hp, mX12_readNever_l74 433 (nI at0) 0 0 (hk τ J M) = some hp ∧ ∃ P, mX12_readNever_b108 433 (nI at0) (bI (anyB (may T) (2 ^ t1))) (hk τ (rowUp J 443 P) M) = some hp := by
    unfold mX12_readNever_l74
    have h0 : hk τ J M = hk τ (rowUp J 443 (J 443)) M := by rw [rowUp_id]
    rw [h0]
    refine lp_invX (f := fun s : Int32 × Int32 × Hp => mX12_readNever_l74f 433 (nI at0) s.1 s.2.1 s.2.2) (2 ^ t1) (fun w st => ∃ P, st = (bI (anyB (may T) w), nI w, hk τ (rowUp J 443 P) M))
      (fun hp => ∃ P, mX12_readNever_b108 433 (nI at0) (bI (anyB (may T) (2 ^ t1))) (hk τ (rowUp J 443 P) M) = some hp)
      (fun w st hw hQ => ?_) (fun st hQ => ?_) (i := 0) (s := (0, 0, hk τ (rowUp J 443 (J 443)) M)) (Nat.zero_le _) ⟨_, rfl⟩
    · obtain ⟨P, rfl⟩ := hQ
      cases hb : anyB (may T) w with
      | false =>
        obtain ⟨P', e⟩ := mayBe_ok (σ := τ) (I := rowUp J 443 P) (L := M) (R := T) 435 rfl (by omega) (fun i hi => (h.j443 P).2.2.2.2.1 i hi) (w := w) (by omega) h3 hwf
        refine Or.inl ⟨_, ?_, P', rfl⟩
        show mX12_readNever_l74f 433 (nI at0) (bI false) (nI w) (hk τ (rowUp J 443 P) M) = some (.inl (bI (anyB (may T) w || may T w), nI (w + 1), hk τ (rowUp J 443 P') M))
        unfold mX12_readNever_l74f
        rw [gM 1, RF_433_1, l1, obind, shl1 (by omega), c_lt hw (by omega), if_pos (show bI false = 0 from rfl), gM 1, RF_433_1, e, b2s, rowUp_two, nI_1, hb, Bool.false_or]
      | true =>
        obtain ⟨hp, e⟩ := hBs true P
        have ha : anyB (may T) (2 ^ t1) = true := by
          obtain ⟨v, hv, hm⟩ := anyB_iff.mp hb
          exact anyB_iff.mpr ⟨v, by omega, hm⟩
        refine Or.inr ⟨hp, ?_, P, by rw [ha]; exact e⟩
        show mX12_readNever_l74f 433 (nI at0) (bI true) (nI w) (hk τ (rowUp J 443 P) M) = _
        unfold mX12_readNever_l74f
        rw [gM 1, RF_433_1, l1, obind, shl1 (by omega), c_lt hw (by omega), if_neg (show ¬ bI true = 0 by decide), e]
        rfl
    · obtain ⟨P, rfl⟩ := hQ
      obtain ⟨hp, e⟩ := hBs (anyB (may T) (2 ^ t1)) P
      refine ⟨hp, ?_, P, e⟩
      show mX12_readNever_l74f 433 (nI at0) (bI (anyB (may T) (2 ^ t1))) (nI (2 ^ t1)) (hk τ (rowUp J 443 P) M) = _
      unfold mX12_readNever_l74f
      rw [gM 1, RF_433_1, l1, obind, shl1 (by omega), c_nlt (Nat.le_refl _) (by omega), e]
      rfl
  obtain ⟨hp, e, P, eP⟩ := key
  cases hb : anyB (may T) (2 ^ t1) with
  | false =>
    obtain ⟨J', e2, r1, r2⟩ := hB0 P
    rw [hb, e2] at eP
    cases eP
    exact ⟨J', M, e, fun z => by simp at z, fun _ => ⟨r1, r2⟩⟩
  | true =>
    obtain ⟨J', M', e2, r1, r2⟩ := hB1 P
    rw [hb, e2] at eP
    cases eP
    exact ⟨J', M', e, fun _ => ⟨P, r1, r2⟩, fun z => by simp at z⟩
/-- a line that tells what can't be -/
theorem l_never (hla : isLa la) (hg : gpl σ = la) (hs : s = 268 ∨ s = 275) (h : SV I J L M X n m i la s W T lim) (hc0 : ck X n (pz X n i) ≠ 0) (hc1 : ck X n (pz X n i) ≠ 1) : LQ σ τ I J L M X n m i la s T (mX2_readNever 282 (hk σ I L)) (mX12_readNever 433 (hk τ J M)) := by
  have hla' : la = 112 ∨ la = 190 := hla
  obtain ⟨⟨dp, hp⟩, hS, hD, h22, hO, hW⟩ := h
  have h6 : T 6 ≤ 32 := by have := hS.t6; have := hS.1.2.1; omega
  obtain ⟨⟨a1, a2, a3, a4, a5, a6, a7⟩, b, c, d, ee, ff, gq, hh, w0, w01, w02⟩ := id hS
  obtain ⟨rmA, rmB⟩ := room_ok (τ := τ) hp.2.1 hc1 (a := T 3) (b := 6) (by omega) (by omega)
  have k13 : I la 13 = nI (T 7) := by have := hp.2.2.2.2.2.1.1; rw [Nat.zero_add] at this; exact this
  have pz480 := hp.1.le.1
  have n480 := hp.1.1
  unfold mX2_readNever mX12_readNever
  rw [if_pos s282, if_pos s433, gDr, hg, gI_la hla, obind, hD.1.2.1, gMI, obind, hp.2.1.2.1.2.1, gM 1, RF_433_1, show (3 : Int32) = nI 3 from rfl, ld435 hp.2.2.2.2.1 (by omega), obind]
  by_cases q6 : T 3 = 6
  · obtain ⟨J1, e1, b1, f1⟩ := rmB q6
    have e1 : mX12_room 433 (nI (T 3)) (6 : Int32) (hk τ J M) = some (hk τ J1 M) := e1
    obtain ⟨I1, e2, b2', f2⟩ := fail_b2 (σ := σ) (L := L) hp.1 (f := 4) (by omega) (by omega)
    have e2 : (b2 (mX2_fail 282 (4 : Int32) (hk σ I L)) fun v35 h36 => (z01 v35).bind fun v => some (v, h36)) = some (0, hk σ I1 L) := e2
    obtain ⟨J2, T2, e3, b3, g3, _⟩ := expr_bad (τ := τ) (M := M) b1 (hp.2.2.2.2.1.mf f1) h6
    rw [if_neg (show ¬ nI (T 3) < (6 : Int32) from nI_nlt (b := 6) (by omega) (by omega)), e2, e1, obind, e3, b2s, isSign_bad b3.ne, obind, if_pos (show bI false = 0 from rfl), wrong_bad b3, obind, n36_bad b3]
    exact Or.inr ⟨4, _, I1, J2, L, M, rfl, rfl, b2', b3, f2.fs, f1.1.tr g3.1⟩
  · obtain ⟨u, w, e1, y2, y3⟩ := rmA q6
    have e1 : mX12_room 433 (nI (T 3)) (6 : Int32) (hk τ J M) = some (hk τ (rowUp J 433 u) (rowUp M 433 w)) := e1
    have p1 := hp.nx hla hc0 y2 y3
    rw [if_pos (show nI (T 3) < (6 : Int32) from nI_lt (b := 6) (by omega) (by omega)), gPI, obind, hp.1.2.2.2.2.2.1, gDr, hg, gI_la hla, obind, k13, obind, sI_ok s282, obind, setI_hk, hpI_hk', nI_1, e1, obind]
    rcases expr_ok (σ := σ) (τ := τ) (L := L) hla hg (by omega) p1 h6 with ⟨I2, J2, M2, i2, T2, x1, x2, p2, l2, l3, t6, t84, t117, tn, rg, f2, g2⟩ | ⟨fl, pl, I2, J2, M2, T2, x1, x2, c2, f2, b2', g2, r2, _⟩
    · have hlt := ck_lt X n (pz X n i2)
      have rge := rg.1.1
      have i2n := p2.1.le.2
      have T2n := p2.2.2.2.2.2.2.1
      have f2' : ∀ x, x ≠ 282 → x ≠ la → x ≠ la + 7 → I2 x = I x := fun x a b c => by rw [f2.1 x a b c, rowUp_ne _ _ a]
      have f2k : ∀ k, k ≠ 13 → I2 la k = I la k := fun k hk' => by rw [f2.2.1 k hk', rowUp_ne _ _ (by omega)]
      rw [x1, b2s, if_neg (show ¬ (1 : Int32) = 0 by decide), x2, b2s, show (59 : Int32) = nI 59 from rfl, isSign_ok p2.2.1.2.1 p2.2.1.2.2 (by decide), obind, bI_if0]
      by_cases q59 : ck X n (pz X n i2) = 59
      · rcases exp_ok (σ := σ) (τ := τ) (L := L) p2.1 p2.2.1 (c := 59) (by omega) (by omega) with ⟨_, ⟨I3, v1, v2, v3, v4⟩, _⟩ | ⟨q, _⟩
        · have k3 : T2 3 = T 3 := tn 3 (by omega) (by omega) (by omega) (by omega) (by omega)
          have q13 : I3 la 13 = nI (T2 7) := by have := p2.2.2.2.2.2.1.1; rw [Nat.zero_add] at this; rw [v3 _ (by omega)]; exact this
          obtain ⟨T', hT⟩ : ∃ T', T' = updA (updA T2 (78 + T 3) (T 6)) 3 (T 3 + 1) := ⟨_, rfl⟩
          have s1 := p2.set (k := 78 + T 3) (T 6) (by omega) (by omega) (by omega) (by omega)
          have s2 := s1.set (k := 3) (T 3 + 1) (by omega) (by omega) (by omega) (by omega)
          rw [← hT] at s2
          have u3 : T' 3 = T 3 + 1 := by rw [hT, updA_same]
          have u78 : T' (78 + T 3) = T 6 := by rw [hT, updA_ne _ _ (by omega), updA_same]
          have un : ∀ j, j ≠ 3 → j ≠ 78 + T 3 → T' j = T2 j := fun j a b => by rw [hT, updA_ne _ _ a, updA_ne _ _ b]
          have u7 : T' 7 = T2 7 := un 7 (by omega) (by omega)
          have ucT : cT T' = cT T2 := by funext j; exact un _ (by omega) (by omega)
          have g : GR T T' := ⟨by rw [u7]; exact rge, fun j h1 h2 => by rw [un j (by omega) (by omega)]; exact tn j (by omega) (by omega) (by omega) (by omega) h2, fun e he => ⟨by rw [un _ (by omega) (by omega)]; exact tn _ (by omega) (by omega) (by omega) (by omega) (by omega), by rw [un _ (by omega) (by omega)]; exact tn _ (by omega) (by omega) (by omega) (by omega) (by omega)⟩⟩
          have lo : ∀ j, j < 84 → j ≠ 3 → j ≠ 7 → j ≠ 6 → j ≠ 78 + T 3 → T' j = T j := fun j a b c d e => by rw [un j b e]; exact tn j c d (by omega) (by omega) (by omega)
          have w1 : T' 1 = T 1 := lo 1 (by omega) (by omega) (by omega) (by omega) (by omega)
          have w2 : T' 2 = T 2 := lo 2 (by omega) (by omega) (by omega) (by omega) (by omega)
          have w4 : T' 4 = T 4 := lo 4 (by omega) (by omega) (by omega) (by omega) (by omega)
          have w6 : T' 6 = T 6 + 1 := by rw [un 6 (by omega) (by omega), t6]
          have w84 : T' (84 + T 6) = T 7 := by rw [un _ (by omega) (by omega), t84]
          have w117 : T' (117 + T 6) = T2 7 := by rw [un _ (by omega) (by omega), t117]
          have ewf : ∀ e, e < T' 6 → wfE (cT T') (T' (84 + e)) (T' (117 + e)) ∧ T' (117 + e) ≤ T' 7 := fun e he => by
            rw [w6] at he
            by_cases q : e = T 6
            · rw [q, w84, w117, ucT, u7]; exact ⟨rg.wf, Nat.le_refl _⟩
            · have he' : e < T 6 := by omega
              rw [(g.2.2 e he').1, (g.2.2 e he').2, u7]
              exact ⟨g.wfc (hS.ew he').2 (hS.ew he').1, Nat.le_trans (hS.ew he').2 rge⟩
          have nv : ∀ k, k < T' 3 → T' (78 + k) < T' 6 := fun k hk' => by
            rw [u3] at hk'
            rw [w6]
            by_cases q : k = T 3
            · rw [q, u78]; omega
            · rw [lo (78 + k) (by omega) (by omega) (by omega) (by omega) (by omega)]
              have := ff k (by omega)
              omega
          have lb : ∀ s, s < T' 7 → cT T' s < 100 → cT T' s < T 1 := fun s hs' => by
            by_cases q : s < T 7
            · rw [g.ct q]; exact hh s q
            · rw [ucT]; rw [u7] at hs'; exact rg.2 s (by omega) hs'
          have em : may T' = fun w => may T w && !(evP (qw w) (cT T2) (T 7) (T2 7)).1 := by
            funext w
            have e1 : ev T' (T' (78 + T 3)) w = (evP (qw w) (cT T2) (T 7) (T2 7)).1 := by unfold ev; rw [u78, w84, w117, ucT]
            have e2 : allB (fun k => !ev T' (T' (78 + k)) w) (T 3) = allB (fun k => !ev T (T (78 + k)) w) (T 3) := allB_congr fun k hk' => by
              have h6 := ff k hk'
              rw [lo (78 + k) (by omega) (by omega) (by omega) (by omega) (by omega), g.evc h6 (hS.ew h6).2]
            unfold may
            rw [u3]
            show (allB (fun k => !ev T' (T' (78 + k)) w) (T 3) && !ev T' (T' (78 + T 3)) w) = _
            rw [e1, e2]
          have ma := may_any (T := T') (t := T 1) a1 (fun k hk' => (ewf _ (nv k hk')).2) lb
          -- the class works it out
          obtain ⟨hh', y', n', z', r', te, tr⟩ := tab_ok (σ := σ) (I := I3) (L := L) hO (la + 7) (SH_la7 hla) (by omega) (cT T2) (T 7) (T2 7) rge (by omega) rg.wf.2.1 (fun j h1 h2 => by
            rw [v3 _ (by omega)]
            have := p2.2.2.2.2.2.1.2 j h2
            rw [Nat.zero_add] at this
            exact this) 283 284 (fun _ _ => wSpa) (by omega) (by omega) (by omega) (by omega)
          have tr := tr (by rw [rg.wf.2.2]; exact Nat.le_refl _)
          obtain ⟨I4, hI4⟩ : ∃ I4, I4 = rowUp I3 108 hh' := ⟨_, rfl⟩
          obtain ⟨L4, hL4⟩ : ∃ L4, L4 = rowUp (rowUp (rowUp (rowUp L 284 r') 109 y') 110 n') 111 z' := ⟨_, rfl⟩
          have te : mX4_tabulate 108 (la + 7) (nI (T 7)) (nI (T2 7)) 283 (hk σ I3 L) = some (hk σ I4 L4) := by rw [hI4, hL4]; exact te
          have lx : ∀ x, (x < 109 ∨ 111 < x) → x ≠ 284 → L4 x = L x := fun x a b => by rw [hL4, rowUp_ne _ _ (by omega), rowUp_ne _ _ (by omega), rowUp_ne _ _ (by omega), rowUp_ne _ _ b]
          have l284 : L4 284 = r' := by rw [hL4, rowUp_ne _ _ (by omega), rowUp_ne _ _ (by omega), rowUp_ne _ _ (by omega), rowUp_same]
          obtain ⟨r2, me, mr⟩ := minus_ok (h := hk σ I4 L4) (f := may T) (g := fun w => (evP (qw w) (cT T2) (T 7) (T2 7)).1) (wPos (σ := σ) (I := I4) (L := L4) hla) wSpa (by omega) (by show Rw (L4 (la + 12)) _; rw [lx _ (by omega) (by omega)]; exact hD.1.2.2.2.2) (by show Rw (L4 284) _; rw [l284]; exact tr)
          rw [setL_hk] at me
          rw [← em] at mr
          have i4 : ∀ x, x ≠ 282 → x ≠ la → x ≠ la + 7 → x ≠ 108 → I4 x = I x := fun x a b c d => by rw [hI4, rowUp_ne _ _ d, v3 x a, f2' x a b c]
          have i4k : ∀ k, k ≠ 13 → I4 la k = I la k := fun k hk' => by rw [hI4, rowUp_ne _ _ (by omega), v3 _ (by omega), f2k k hk']
          have i43 : I4 la 13 = nI (T2 7) := by rw [hI4, rowUp_ne _ _ (by omega), q13]
          obtain ⟨I5, hI5⟩ : ∃ I5, I5 = rowUp I4 la (updA (I4 la) 3 (nI (T 3 + 1))) := ⟨_, rfl⟩
          have ie : mX10_isEmpty (la + 11) (hk σ I5 (rowUp L4 (la + 12) r2)) = some (bI (!anyB (may T') 256)) := isEmpty_ok (wPos (σ := σ) (I := I5) hla) (by show Rw ((rowUp L4 (la + 12) r2) (la + 12)) _; rw [rowUp_same]; exact mr)
          obtain ⟨J3, M3, me3, mA, mB⟩ := mlook_ok (τ := τ) (at0 := pz X n i) s2 w1 (by omega) (fun k hk' => ⟨by have := nv k hk'; omega, (ewf _ (nv k hk')).1, by have := (ewf _ (nv k hk')).2; omega⟩) (by omega)
          have pcI5 : PCk I5 X n m (i2 + 1) := by rw [hI5, hI4]; exact (v2.row _ (by omega) (by omega)).row _ (by omega) (by omega)
          have fs : ∀ x, x ≠ 282 → x ≠ la → x ≠ la + 7 → x ≠ 108 → I5 x = I x := fun x a b c d => by rw [hI5, rowUp_ne _ _ b, i4 x a b c d]
          have fsk : ∀ k, k ≠ 13 → k ≠ 3 → I5 la k = I la k := fun k a b => by rw [hI5, rowUp_same, updA_ne _ _ b, i4k k a]
          have fL : ∀ x, (x < 109 ∨ 111 < x) → x ≠ 284 → x ≠ la + 12 → rowUp L4 (la + 12) r2 x = L x := fun x a b c => by rw [rowUp_ne _ _ c, lx x a b]
          have ms : mX12_readNever_b36 433 (nI (pz X n i)) (nI (T 6)) (hk τ J2 M2) = some (hk τ J3 M3) := by
            unfold mX12_readNever_b36
            rw [gMI, obind, if_pos p2.2.1.2.2, gM 1, RF_433_1, gM 1, RF_433_1, show (3 : Int32) = nI 3 from rfl, ld435 p2.2.2.2.2.1 (by omega), obind, k3, show (78 : Int32) = nI 78 from rfl, nI_add, st435 _ (by omega), obind, gM 1, RF_433_1, ld435 s1.2.2.2.2.1 (by omega), obind, updA_ne _ _ (by omega), k3, nI_1, st435 _ (by omega), obind, me3]
          have v1 : mX2_expect 282 (nI 59) (hk σ I2 L) = some (1, hk σ I3 L) := v1
          rw [decide_eq_true q59, if_neg nTF, ms, v1, b2s, if_neg (show ¬ (1 : Int32) = 0 by decide), gSee, gDr, hg, gR_la hla, obind, RF_la_12 σ hla, gDr, hg, gI_la hla, obind, q13, gSp, te, obind, gDr, hg, gR_la hla, obind, RF_la_17 σ hla, gSp, me, obind, gDr, hg, gI_la hla, obind, i4k 3 (by omega), hD.1.2.1, nI_1, sI_la hla, obind, ← hI5, gDr, hg, gR_la hla, obind, RF_la_17 σ hla, ie, obind, bI_if0]
          cases hb : anyB (may T') (2 ^ T 1) with
          | true =>
            obtain ⟨P, y4, y5⟩ := mA hb
            rw [ma, hb, Bool.not_true, if_pos rfl]
            have sP := (s2.j443 P).go hla v2 v3 y4 y5
            have p5 : PE I5 J3 M3 X n m (i2 + 1) la 0 W (T 1) (T 2) T' 0 := by
              have sQ := sP.irow (x := 108) hh' (by omega) (by omega) (by omega) (by omega) (by omega)
              rw [← hI4] at sQ
              rw [hI5]
              exact ⟨by rw [← hI5]; exact pcI5, sQ.2.1, CN.fld sQ.2.2.1 hla _ (by omega) (by omega), sQ.2.2.2.1, sQ.2.2.2.2.1, CK.fld sQ.2.2.2.2.2.1 _ (by omega), sQ.2.2.2.2.2.2.1, sQ.2.2.2.2.2.2.2⟩
            obtain ⟨⟨d0, d3, d4, d5, dm⟩, dO, dk, ds, dp', dq, ⟨dj, d2⟩, dst⟩ := hD
            have ef : fst0 T' = fst0 T := fst0_cg w2 (fun k _ => lo _ (by omega) (by omega) (by omega) (by omega) (by omega))
            obtain ⟨wx, wx1, wx2⟩ := anyB_iff.mp hb
            refine Or.inl ⟨I5, J3, _, M3, i2 + 1, W, T', lim, rfl, rfl, ⟨⟨0, by rw [w1, w2]; exact p5⟩, ⟨⟨by omega, by omega, by omega, by omega, a5, ?_, ?_⟩, fun f hf => ?_, fun k hk' => ?_, fun k h1 h2 => ?_, fun p hp => ?_, nv, ewf, by rw [w1]; exact lb, wx, by rw [w1]; exact wx1, wx2⟩, ⟨⟨?_, ?_, ?_, ?_, ?_⟩, fun f hf => ?_, fun k hk' => ?_, fun k hk' => ?_, fun p hp => ?_, fun q hq => ?_, ⟨fun j h1 h2 => ?_, ?_⟩, fun k hk' => ?_⟩, ?_, fun k hk' => by rw [fL 2 (by omega) (by omega) (by omega)]; exact hO k hk', hW⟩, lo 0 (by omega) (by omega) (by omega) (by omega) (by omega), by omega, ⟨fun x a b c d => fs x a (by omega) (by omega) b, fL⟩, ?_⟩
            · rw [lo 5 (by omega) (by omega) (by omega) (by omega) (by omega)]; exact a6
            · rw [w6, u3, w4, w2, ndT_cg (T := T) (T' := T') (fun k _ => lo _ (by omega) (by omega) (by omega) (by omega) (by omega))]; omega
            · rw [w1] at hf
              rw [lo (8 + f) (by omega) (by omega) (by omega) (by omega) (by omega)]; exact b f hf
            · rw [w2] at hk'
              obtain ⟨c1, c2, c3, c4, c5, c6, c7⟩ := c k hk'
              refine ⟨?_, ?_, ?_, fun i hi' => ?_, ?_, ?_, ?_⟩
              · rw [lo (16 + k) (by omega) (by omega) (by omega) (by omega) (by omega)]; exact c1
              · rw [lo (21 + k) (by omega) (by omega) (by omega) (by omega) (by omega)]; exact c2
              · rw [lo (26 + k) (by omega) (by omega) (by omega) (by omega) (by omega)]; exact c3
              · rw [lo (26 + k) (by omega) (by omega) (by omega) (by omega) (by omega)] at hi'
                rw [lo (31 + 4 * k + i) (by omega) (by omega) (by omega) (by omega) (by omega), w6]
                have := c4 i hi'
                omega
              · rw [lo (51 + k) (by omega) (by omega) (by omega) (by omega) (by omega), w1]; exact c5
              · rw [lo (51 + k) (by omega) (by omega) (by omega) (by omega) (by omega), lo (56 + k) (by omega) (by omega) (by omega) (by omega) (by omega)]; exact c6
              · rw [lo (61 + k) (by omega) (by omega) (by omega) (by omega) (by omega), w2]; exact c7
            · rw [w2] at h1
              rw [lo (51 + k) (by omega) (by omega) (by omega) (by omega) (by omega), lo (56 + k) (by omega) (by omega) (by omega) (by omega) (by omega), lo (61 + k) (by omega) (by omega) (by omega) (by omega) (by omega)]
              exact d k h1 h2
            · rw [w4] at hp
              rw [lo (66 + p) (by omega) (by omega) (by omega) (by omega) (by omega), lo (72 + p) (by omega) (by omega) (by omega) (by omega) (by omega), w2, w6]
              have := ee p hp
              omega
            · rw [fsk 0 (by omega) (by omega), lo 0 (by omega) (by omega) (by omega) (by omega) (by omega)]; exact d0
            · rw [hI5, rowUp_same, updA_same, u3]
            · rw [fsk 4 (by omega) (by omega), w4]; exact d4
            · rw [fsk 5 (by omega) (by omega)]; exact d5
            · rw [rowUp_same]; exact mr
            · rw [w1] at hf
              rw [fs (la + 1) (by omega) (by omega) (by omega) (by omega), lo (8 + f) (by omega) (by omega) (by omega) (by omega) (by omega)]
              exact dO f hf
            · rw [w2] at hk'
              obtain ⟨k1, k2, k3⟩ := dk k hk'
              have c3 := (c k hk').2.2.1
              refine ⟨?_, ?_, fun i hi' => ?_⟩
              · rw [fs (la + 3) (by omega) (by omega) (by omega) (by omega), lo (26 + k) (by omega) (by omega) (by omega) (by omega) (by omega)]; exact k1
              · rw [fs (la + 6) (by omega) (by omega) (by omega) (by omega), ef]; exact k2
              · rw [lo (26 + k) (by omega) (by omega) (by omega) (by omega) (by omega)] at hi'
                have c4 := (c k hk').2.2.2.1 i hi'
                rw [lo (31 + 4 * k + i) (by omega) (by omega) (by omega) (by omega) (by omega), (g.2.2 _ c4).1, (g.2.2 _ c4).2, fs (la + 8) (by omega) (by omega) (by omega) (by omega), fs (la + 9) (by omega) (by omega) (by omega) (by omega)]
                exact k3 i hi'
            · rw [fs (la + 5) (by omega) (by omega) (by omega) (by omega), lo (61 + k) (by omega) (by omega) (by omega) (by omega) (by omega)]
              exact ds k hk'
            · rw [w4] at hp
              have c4 := (ee p hp).2
              rw [fs (la + 4) (by omega) (by omega) (by omega) (by omega), fs (la + 8) (by omega) (by omega) (by omega) (by omega), fs (la + 9) (by omega) (by omega) (by omega) (by omega), lo (66 + p) (by omega) (by omega) (by omega) (by omega) (by omega), lo (72 + p) (by omega) (by omega) (by omega) (by omega) (by omega), (g.2.2 _ c4).1, (g.2.2 _ c4).2]
              exact dp' p hp
            · exact g.slc (dq q hq) (by rw [fs (la + 8) (by omega) (by omega) (by omega) (by omega)]) (by rw [fs (la + 9) (by omega) (by omega) (by omega) (by omega)])
            · rw [fs s (by omega) (by omega) (by omega) (by omega)]; exact dj j h1 h2
            · rw [fs s (by omega) (by omega) (by omega) (by omega), w2]; exact d2
            · rw [w2] at hk'
              rw [fs (s + 1) (by omega) (by omega) (by omega) (by omega), fs (s + 2) (by omega) (by omega) (by omega) (by omega), fs (s + 3) (by omega) (by omega) (by omega) (by omega), fs (s + 4) (by omega) (by omega) (by omega) (by omega), fs (s + 5) (by omega) (by omega) (by omega) (by omega), fs (s + 6) (by omega) (by omega) (by omega) (by omega), lo (16 + k) (by omega) (by omega) (by omega) (by omega) (by omega), lo (21 + k) (by omega) (by omega) (by omega) (by omega) (by omega), lo (51 + k) (by omega) (by omega) (by omega) (by omega) (by omega), lo (56 + k) (by omega) (by omega) (by omega) (by omega) (by omega)]
              exact dst k hk'
            · rw [y5.2.2.2.2, rowUp_ne _ _ (by omega), rowUp_ne _ _ (by omega), rowUp_ne _ _ (by omega), g2.2.2, y3.2.2.2.2, h22]
            · exact y3.1.tr (g2.1.tr (((MX.u435 _).1.tr (MX.u435 _).1).tr ((MFr.u443 P).tr y5.1)))
          | false =>
            obtain ⟨y4, y5⟩ := mB hb
            rw [ma, hb, Bool.not_false, if_neg nTF, sI_ok s282, obind, setI_hk, hpI_hk']
            have pb : PCk (rowUp I5 282 (updA (I5 282) 5 (nI i))) X n m i := pcI5.up (updA_same _ _ _) hp.1.2.2.2.2.2.2
            obtain ⟨I6, e6, c6, d6⟩ := fail_b2 (σ := σ) (L := rowUp L4 (la + 12) r2) pb (f := 5) (by omega) (by omega)
            have e6 : (b2 (mX2_fail 282 (5 : Int32) (hk σ (rowUp I5 282 (updA (I5 282) 5 (nI i))) (rowUp L4 (la + 12) r2))) fun v33 h34 => (z01 v33).bind fun v => some (v, h34)) = some (0, hk σ I6 (rowUp L4 (la + 12) r2)) := e6
            rw [e6]
            exact Or.inr ⟨5, _, I6, J3, _, M3, rfl, rfl, c6, y4, ⟨fun x a b c d => by rw [d6 x a, rowUp_ne _ _ a, fs x a (by omega) (by omega) b], fL⟩, y3.1.tr (g2.1.tr (((MX.u435 _).1.tr (MX.u435 _).1).tr y5))⟩
        · exact absurd q59 q
      · obtain ⟨I3, e3, c3, d3⟩ := fail_b2 (σ := σ) (L := L) p2.1 (f := 1) (by omega) (by omega)
        obtain ⟨u', w1, w2, w3⟩ := wrong_ok (σ := τ) p2.2.1 (f := 1) (by omega) (by omega)
        have w1 : mX12_wrong 433 (1 : Int32) (hk τ J2 M2) = some (hk τ (rowUp J2 433 u') M2) := w1
        have w2 : MFl (rowUp J2 433 u') 1 (pz X n i2) := by simpa using w2
        have ex : mX2_expect 282 (nI 59) (hk σ I2 L) = some (0, hk σ I3 L) := by
          unfold mX2_expect
          rw [if_pos s282, nextKind_ok p2.1, obind, ckd (by omega), if_neg q59]
          exact e3
        rw [ex, b2s, if_pos rfl, decide_eq_false q59, if_pos rfl, w1, obind, n36_bad w2]
        exact Or.inr ⟨1, _, I3, _, L, M2, rfl, rfl, c3, w2, ⟨fun x a b c d => by rw [d3 x a, f2' x a (by omega) (by omega)], fun _ _ _ _ => rfl⟩, y3.1.tr (g2.1.tr w3.1)⟩
    · rw [x1, b2s, if_pos rfl, x2, b2s, isSign_bad b2'.ne, obind, if_pos (show bI false = 0 from rfl), wrong_bad b2', obind, n36_bad b2']
      exact Or.inr ⟨fl, pl, I2, J2, L, M2, rfl, rfl, c2, b2', ⟨fun x a b c d => by rw [f2.1 x a (by omega) (by omega), rowUp_ne _ _ a], fun _ _ _ _ => rfl⟩, y3.1.tr g2.1⟩
end Never
