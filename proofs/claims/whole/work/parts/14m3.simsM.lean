set_option maxHeartbeats 4000000 in
set_option maxRecDepth 100000 in
theorem sX12_tries (l : Launch) (w : Wd) (x0 : Nat) (x1 : Int32) (x2 : Int32) (h : Hp) (u : (Int32 × Hp)) (hK : mX12_tries x0 x1 x2 h = some u) : M1 l w mi_X12_tries 4 [vR w x0, .int x1, .int x2] h u.2 (some (.int u.1)) := by
  refine M1.of (own := RX12) (T := fun _ r => r = u) hK (by decide +kernel) rfl (by first | (simp only [lg_lenR, lg_lenI, lg_lenL, lg_len0]; decide) | decide) (fun x hx hnl hhf hl hw hret hnm hQ h0e => ⟨?_, rfl⟩)
  subst hw
  subst hl
  have hR : Rt x h u.2 (some (.int u.1)) ((some .int)) := ⟨h0e, hhf, hret, hQ⟩
  have hn : ∀ i, i < 4 → i < x.2.2.1.1.1 := fun i hi => by rw [hnl]; exact hi
  have e0 : lv_args 0 [vR x.2.2.2 x0, .int x1, .int x2] = [(0, vR x.2.2.2 x0), (1, .int x1), (2, .int x2)] := by simp only [lv_argsR, lv_argsI, lv_argsL, lv_args0]
  rw [e0]
  have hb53 : ∀ (x0 : Nat) (x3 : Int32) (h : Hp), J x 53 [(0, vR x.2.2.2 x0), (3, .int x3)] [] h (mX12_tries_l53 x0 x3 h) (fun r => r = u) := by
    intro x0 x3 h
    have hB : ∀ (x3 : Int32), J x 53 [(0, vR x.2.2.2 x0), (3, .int x3)] [] h (mX12_tries_l53f x0 h x3) (TL (S := Int32) x 53 (fun s => [(0, vR x.2.2.2 x0), (3, .int s)]) [] (fun s => h) (fun r => r = u)) := by
      intro x3
      have hb76 : ∀ (x0 : Nat) (x3 : Int32) (h : Hp), J x 76 [(0, vR x.2.2.2 x0), (3, .int x3)] [] h (mX12_tries_b76 x0 x3 h) (TL (S := Int32) x 53 (fun s => [(0, vR x.2.2.2 x0), (3, .int s)]) [] (fun s => h) (fun r => r = u)) := by
        intro x0 x3 h
        unfold mX12_tries_b76
        refine j_iinc (q := 79) (l2 := [(0, vR x.2.2.2 x0)]) hx (dc kX12_tries_0 45 rfl) 1 rfl (v := (1 : Int32)) (by decide) (hn 3 (by decide)) [0] rfl ⟨⟨show (0 : Nat) ≠ 3 by decide, Or.inl (show (0 : Nat) + 1 ≠ 3 by decide)⟩, trivial⟩ rfl ?_
        refine j_goto (q := 53) hx (dc kX12_tries_0 46 rfl) (by decide) ?_
        exact j_back [1, 0] (x3 + (1 : Int32)) rfl rfl
      unfold mX12_tries_l53f
      refine j_aload_n (q := 54) hx (dc kX12_tries_0 32 rfl) rfl 0 rfl rfl ?_
      refine j_iload_n (q := 55) hx (dc kX12_tries_0 33 rfl) rfl 1 rfl rfl ?_
      refine w_cVIR (q := 58) (As := [.int x3]) (st := []) hx (dc kX12_tries_0 34 rfl) cf12 (by decide) rfl (cI _ my_X12_isKnown lm_X12_326 (by decide)) vs_X12_isKnown rfl (fun u hu => sX12_isKnown _ _ _ _ _ _ hu) (fun e => ite_ne (by unfold mX12_isKnown at e; exact e)) (Nat.zero_le _) rfl (fun v11 => ?_)
      refine j_if_neS (q := 61) (tgt := 76) hx (dc kX12_tries_0 35 rfl) (by decide) rfl ?_ ?_
      · exact hb76 x0 x3 h
      · refine j_aload_n (q := 62) hx (dc kX12_tries_0 36 rfl) rfl 0 rfl rfl ?_
        refine j_iconst (q := 63) (v := (0 : Int32)) hx (dc kX12_tries_0 37 rfl) (by decide) rfl ?_
        refine j_iload_n (q := 64) hx (dc kX12_tries_0 38 rfl) rfl 1 rfl rfl ?_
        refine w_cVIR (q := 67) (As := [.int (0 : Int32), .int x3]) (st := []) hx (dc kX12_tries_0 39 rfl) cf12 (by decide) rfl (cI _ my_X12_triedBy lm_X12_447 (by decide)) vs_X12_triedBy rfl (fun u hu => sX12_triedBy _ _ _ _ _ _ _ hu) (fun e => ite_ne (by unfold mX12_triedBy at e; exact e)) (Nat.zero_le _) rfl (fun v13 => ?_)
        refine j_aload_n (q := 68) hx (dc kX12_tries_0 40 rfl) rfl 0 rfl rfl ?_
        refine w_gR (q := 71) hx (dc kX12_tries_0 41 rfl) ff_X12_35 lk_X12_73 rfl (fun v15 => ?_)
        refine j_iconst (q := 72) (v := (0 : Int32)) hx (dc kX12_tries_0 42 rfl) (by decide) rfl ?_
        refine j_ldI (q := 73) hx (dc kX12_tries_0 43 rfl) rfl (fun v16 => ?_)
        refine j_icmp_eq (q := 76) (tgt := 82) hx (dc kX12_tries_0 44 rfl) (by decide) Iff.rfl rfl ?_ ?_
        · refine j_exit ?_
          refine j_iload_n (q := 83) hx (dc kX12_tries_0 47 rfl) rfl 1 rfl rfl ?_
          exact r_iW hx hR (dc kX12_tries_0 48 rfl)
        · exact hb76 x0 x3 h
    exact j_loop (S := Int32) (lvf := fun s => [(0, vR x.2.2.2 x0), (3, .int s)]) (hpf := fun s => h) (f := (fun s : Int32 => mX12_tries_l53f x0 h s)) (fun s => hB s) x3
  unfold mX12_tries
  refine J.ckd fun hck => ?_
  refine j_aload_n (q := 1) hx (dc kX12_tries_0 0 rfl) rfl 0 rfl rfl ?_
  refine j_iload_n (q := 2) hx (dc kX12_tries_0 1 rfl) rfl 1 rfl rfl ?_
  refine w_cVIR (q := 5) (As := [.int x1]) (st := []) hx (dc kX12_tries_0 2 rfl) cf12 (by decide) rfl (cI _ my_X12_isCount lm_X12_380 (by decide)) vs_X12_isCount rfl (fun u hu => sX12_isCount _ _ _ _ _ _ hu) (fun e => ite_ne (by unfold mX12_isCount at e; exact e)) (Nat.zero_le _) rfl (fun v1 => ?_)
  refine j_if_eq (q := 8) (tgt := 17) hx (dc kX12_tries_0 3 rfl) (by decide) Iff.rfl rfl ?_ ?_
  · refine j_iconst (q := 18) (v := (-1 : Int32)) hx (dc kX12_tries_0 9 rfl) (by decide) rfl ?_
    exact r_iW hx hR (dc kX12_tries_0 10 rfl)
  · refine j_iload_n (q := 9) hx (dc kX12_tries_0 4 rfl) rfl 2 rfl rfl ?_
    refine j_iconst (q := 10) (v := (0 : Int32)) hx (dc kX12_tries_0 5 rfl) (by decide) rfl ?_
    refine j_iconst (q := 11) (v := (1 : Int32)) hx (dc kX12_tries_0 6 rfl) (by decide) rfl ?_
    refine w_cSIR (q := 14) (As := [.int x2, .int (0 : Int32), .int (1 : Int32)]) (st := []) hx (dc kX12_tries_0 7 rfl) (cI _ my_X12_in lm_X12_85 (by decide)) st_X12_in rfl (fun u hu => sX12_in _ _ _ _ _ _ _ hu) (Nat.zero_le _) rfl (fun v3 => ?_)
    refine j_if_neS (q := 17) (tgt := 19) hx (dc kX12_tries_0 8 rfl) (by decide) rfl ?_ ?_
    · refine j_aload_n (q := 20) hx (dc kX12_tries_0 11 rfl) rfl 0 rfl rfl ?_
      refine j_iload_n (q := 21) hx (dc kX12_tries_0 12 rfl) rfl 1 rfl rfl ?_
      refine w_cVVW (q := 24) (As := [.int x1]) (st := []) hx (dc kX12_tries_0 13 rfl) cf12 (by decide) rfl (cI _ my_X12_laysWays lm_X12_441 (by decide)) vs_X12_laysWays rfl (fun u hu => sX12_laysWays _ _ _ _ _ _ hu) (fun e => ite_ne (by unfold mX12_laysWays at e; exact e)) (Nat.zero_le _) rfl (fun h6 => ?_)
      refine j_aload_n (q := 25) hx (dc kX12_tries_0 14 rfl) rfl 0 rfl rfl ?_
      refine w_cVVW (q := 28) (As := []) (st := []) hx (dc kX12_tries_0 15 rfl) cf12 (by decide) rfl (cI _ my_X12_laysTrials lm_X12_450 (by decide)) vs_X12_laysTrials rfl (fun u hu => sX12_laysTrials _ _ _ _ _ hu) (fun e => ite_ne (by unfold mX12_laysTrials at e; exact e)) (Nat.zero_le _) rfl (fun h8 => ?_)
      refine j_iload_n (q := 29) hx (dc kX12_tries_0 16 rfl) rfl 2 rfl rfl ?_
      refine j_if_neS (q := 32) (tgt := 39) hx (dc kX12_tries_0 17 rfl) (by decide) rfl ?_ ?_
      · refine j_aload_n (q := 40) hx (dc kX12_tries_0 23 rfl) rfl 0 rfl rfl ?_
        refine w_gR (q := 43) hx (dc kX12_tries_0 24 rfl) ff_X12_35 lk_X12_73 rfl (fun v9 => ?_)
        refine j_iconst (q := 44) (v := (0 : Int32)) hx (dc kX12_tries_0 25 rfl) (by decide) rfl ?_
        refine j_ldI (q := 45) hx (dc kX12_tries_0 26 rfl) rfl (fun v10 => ?_)
        refine j_if_neS (q := 48) (tgt := 51) hx (dc kX12_tries_0 27 rfl) (by decide) rfl ?_ ?_
        · refine j_iconst (q := 52) (v := (0 : Int32)) hx (dc kX12_tries_0 30 rfl) (by decide) rfl ?_
          refine j_istore_n (q := 53) (i := 3) (l2 := [(0, vR x.2.2.2 x0)]) hx (dc kX12_tries_0 31 rfl) rfl (hn 3 (by decide)) [0] rfl ⟨⟨show (0 : Nat) ≠ 3 by decide, Or.inl (show (0 : Nat) + 1 ≠ 3 by decide)⟩, trivial⟩ rfl ?_
          exact j_sub [1, 0] rfl (hb53 x0 (0 : Int32) h8)
        · refine j_bipush (q := 50) (v := (-2 : Int32)) hx (dc kX12_tries_0 28 rfl) (by decide) rfl ?_
          exact r_iW hx hR (dc kX12_tries_0 29 rfl)
      · refine j_aload_n (q := 33) hx (dc kX12_tries_0 18 rfl) rfl 0 rfl rfl ?_
        refine w_gR (q := 36) hx (dc kX12_tries_0 19 rfl) ff_X12_35 lk_X12_73 rfl (fun v17 => ?_)
        refine j_iconst (q := 37) (v := (0 : Int32)) hx (dc kX12_tries_0 20 rfl) (by decide) rfl ?_
        refine j_ldI (q := 38) hx (dc kX12_tries_0 21 rfl) rfl (fun v18 => ?_)
        exact r_iW hx hR (dc kX12_tries_0 22 rfl)
    · refine j_iconst (q := 18) (v := (-1 : Int32)) hx (dc kX12_tries_0 9 rfl) (by decide) rfl ?_
      exact r_iW hx hR (dc kX12_tries_0 10 rfl)

set_option maxHeartbeats 4000000 in
set_option maxRecDepth 100000 in
theorem sX12_laysDuel (l : Launch) (w : Wd) (x0 : Nat) (x1 : Int32) (h : Hp) (u : Hp) (hK : mX12_laysDuel x0 x1 h = some u) : M1 l w mi_X12_laysDuel 3 [vR w x0, .int x1] h u (none) := by
  refine M1.of (own := RX12) (T := fun _ r => r = u) hK (by decide +kernel) rfl (by first | (simp only [lg_lenR, lg_lenI, lg_lenL, lg_len0]; decide) | decide) (fun x hx hnl hhf hl hw hret hnm hQ h0e => ⟨?_, rfl⟩)
  subst hw
  subst hl
  have hR : Rt x h u (none) (none) := ⟨h0e, hhf, hret, hQ⟩
  have hn : ∀ i, i < 8 → i < x.2.2.1.1.1 := fun i hi => by rw [hnl]; exact hi
  have e0 : lv_args 0 [vR x.2.2.2 x0, .int x1] = [(0, vR x.2.2.2 x0), (1, .int x1)] := by simp only [lv_argsR, lv_argsI, lv_argsL, lv_args0]
  rw [e0]
  have hb13 : ∀ (x0 : Nat) (x1 : Int32) (x2 : Int32) (h : Hp), J x 13 [(0, vR x.2.2.2 x0), (1, .int x1), (2, .int x2)] [] h (mX12_laysDuel_l13 x0 x1 x2 h) (fun r => r = u) := by
    intro x0 x1 x2 h
    have hB : ∀ (x2 : Int32) (h : Hp), J x 13 [(0, vR x.2.2.2 x0), (1, .int x1), (2, .int x2)] [] h (mX12_laysDuel_l13f x0 x1 x2 h) (TL (S := (Int32 × Hp)) x 13 (fun s => [(0, vR x.2.2.2 x0), (1, .int x1), (2, .int s.1)]) [] (fun s => s.2) (fun r => r = u)) := by
      intro x2 h
      have hb254 : ∀ (x0 : Nat) (x1 : Int32) (x2 : Int32) (h : Hp), J x 254 [(0, vR x.2.2.2 x0), (1, .int x1), (2, .int x2)] [] h (mX12_laysDuel_b254 x0 x1 x2 h) (TL (S := (Int32 × Hp)) x 13 (fun s => [(0, vR x.2.2.2 x0), (1, .int x1), (2, .int s.1)]) [] (fun s => s.2) (fun r => r = u)) := by
        intro x0 x1 x2 h
        unfold mX12_laysDuel_b254
        refine j_iinc (q := 257) (l2 := [(0, vR x.2.2.2 x0), (1, .int x1)]) hx (dc kX12_laysDuel_2 17 rfl) 2 rfl (v := (-1 : Int32)) (by decide) (hn 2 (by decide)) [0, 1] rfl ⟨⟨show (0 : Nat) ≠ 2 by decide, Or.inl (show (0 : Nat) + 1 ≠ 2 by decide)⟩, ⟨⟨show (1 : Nat) ≠ 2 by decide, Or.inr rfl⟩, trivial⟩⟩ rfl ?_
        refine j_goto (q := 13) hx (dc kX12_laysDuel_2 18 rfl) (by decide) ?_
        exact j_back [1, 2, 0] ((x2 + (-1 : Int32)), h) rfl rfl
      have hb253 : ∀ (x0 : Nat) (x1 : Int32) (x2 : Int32) (t0 : Nat) (t1 : Int32) (t2 : Int32) (h : Hp), J x 253 [(0, vR x.2.2.2 x0), (1, .int x1), (2, .int x2)] [.int t2, .int t1, vR x.2.2.2 t0] h (mX12_laysDuel_b253 x0 x1 x2 t0 t1 t2 h) (TL (S := (Int32 × Hp)) x 13 (fun s => [(0, vR x.2.2.2 x0), (1, .int x1), (2, .int s.1)]) [] (fun s => s.2) (fun r => r = u)) := by
        intro x0 x1 x2 t0 t1 t2 h
        unfold mX12_laysDuel_b253
        refine w_stI (q := 254) hx (dc kX12_laysDuel_2 16 rfl) rfl (fun h17 => ?_)
        exact hb254 x0 x1 x2 h17
      have hb86 : ∀ (x0 : Nat) (x1 : Int32) (x2 : Int32) (x4 : Int32) (x5 : Int32) (h : Hp), J x 86 [(0, vR x.2.2.2 x0), (1, .int x1), (2, .int x2), (4, .int x4), (5, .int x5)] [] h (mX12_laysDuel_l86 x0 x1 x2 x4 x5 h) (TL (S := (Int32 × Hp)) x 13 (fun s => [(0, vR x.2.2.2 x0), (1, .int x1), (2, .int s.1)]) [] (fun s => s.2) (fun r => r = u)) := by
        intro x0 x1 x2 x4 x5 h
        have hB : ∀ (x5 : Int32) (h : Hp), J x 86 [(0, vR x.2.2.2 x0), (1, .int x1), (2, .int x2), (4, .int x4), (5, .int x5)] [] h (mX12_laysDuel_l86f x0 x1 x2 x4 x5 h) (TL (S := (Int32 × Hp)) x 86 (fun s => [(0, vR x.2.2.2 x0), (1, .int x1), (2, .int x2), (4, .int x4), (5, .int s.1)]) [] (fun s => s.2) (TL (S := (Int32 × Hp)) x 13 (fun s => [(0, vR x.2.2.2 x0), (1, .int x1), (2, .int s.1)]) [] (fun s => s.2) (fun r => r = u))) := by
          intro x5 h
          have hb210 : ∀ (x0 : Nat) (x1 : Int32) (x2 : Int32) (x4 : Int32) (x5 : Int32) (h : Hp), J x 210 [(0, vR x.2.2.2 x0), (1, .int x1), (2, .int x2), (4, .int x4), (5, .int x5)] [] h (mX12_laysDuel_b210 x0 x1 x2 x4 x5 h) (TL (S := (Int32 × Hp)) x 86 (fun s => [(0, vR x.2.2.2 x0), (1, .int x1), (2, .int x2), (4, .int x4), (5, .int s.1)]) [] (fun s => s.2) (TL (S := (Int32 × Hp)) x 13 (fun s => [(0, vR x.2.2.2 x0), (1, .int x1), (2, .int s.1)]) [] (fun s => s.2) (fun r => r = u))) := by
            intro x0 x1 x2 x4 x5 h
            unfold mX12_laysDuel_b210
            refine j_aload_n (q := 211) hx (dc kX12_laysDuel_1 55 rfl) rfl 0 rfl rfl ?_
            refine j_iload_n (q := 212) hx (dc kX12_laysDuel_1 56 rfl) rfl 2 rfl rfl ?_
            refine j_iload (q := 214) hx (dc kX12_laysDuel_1 57 rfl) 4 rfl rfl ?_
            refine j_iconst (q := 215) (v := (1 : Int32)) hx (dc kX12_laysDuel_1 58 rfl) (by decide) rfl ?_
            refine j_iadd (q := 216) hx (dc kX12_laysDuel_1 59 rfl) rfl ?_
            refine w_cVIR (q := 219) (As := [.int x2, .int (x5 + (1 : Int32))]) (st := []) hx (dc kX12_laysDuel_1 60 rfl) cf12 (by decide) rfl (cI _ my_X12_untold lm_X12_438 (by decide)) vs_X12_untold rfl (fun u hu => sX12_untold _ _ _ _ _ _ _ hu) (fun e => ite_ne (by unfold mX12_untold at e; exact e)) (Nat.zero_le _) rfl (fun v18 => ?_)
            refine j_istore (q := 221) (i := 5) (l2 := [(0, vR x.2.2.2 x0), (1, .int x1), (2, .int x2), (4, .int x4)]) hx (dc kX12_laysDuel_1 61 rfl) (hn 5 (by decide)) [0, 1, 2, 3] rfl ⟨⟨show (0 : Nat) ≠ 5 by decide, Or.inl (show (0 : Nat) + 1 ≠ 5 by decide)⟩, ⟨⟨show (1 : Nat) ≠ 5 by decide, Or.inl (show (1 : Nat) + 1 ≠ 5 by decide)⟩, ⟨⟨show (2 : Nat) ≠ 5 by decide, Or.inl (show (2 : Nat) + 1 ≠ 5 by decide)⟩, ⟨⟨show (4 : Nat) ≠ 5 by decide, Or.inr rfl⟩, trivial⟩⟩⟩⟩ rfl ?_
            refine j_goto (q := 86) hx (dc kX12_laysDuel_1 62 rfl) (by decide) ?_
            exact j_back [1, 2, 3, 4, 0] (v18, h) rfl rfl
          have hb100 : ∀ (x0 : Nat) (x1 : Int32) (x2 : Int32) (x4 : Int32) (x5 : Int32) (x6 : Int32) (h : Hp), J x 100 [(0, vR x.2.2.2 x0), (1, .int x1), (2, .int x2), (4, .int x4), (5, .int x5), (6, .int x6)] [] h (mX12_laysDuel_l100 x0 x1 x2 x4 x5 x6 h) (TL (S := (Int32 × Hp)) x 86 (fun s => [(0, vR x.2.2.2 x0), (1, .int x1), (2, .int x2), (4, .int x4), (5, .int s.1)]) [] (fun s => s.2) (TL (S := (Int32 × Hp)) x 13 (fun s => [(0, vR x.2.2.2 x0), (1, .int x1), (2, .int s.1)]) [] (fun s => s.2) (fun r => r = u))) := by
            intro x0 x1 x2 x4 x5 x6 h
            have hB : ∀ (x6 : Int32) (h : Hp), J x 100 [(0, vR x.2.2.2 x0), (1, .int x1), (2, .int x2), (4, .int x4), (5, .int x5), (6, .int x6)] [] h (mX12_laysDuel_l100f x0 x1 x2 x4 x5 x6 h) (TL (S := (Int32 × Hp)) x 100 (fun s => [(0, vR x.2.2.2 x0), (1, .int x1), (2, .int x2), (4, .int x4), (5, .int x5), (6, .int s.1)]) [] (fun s => s.2) (TL (S := (Int32 × Hp)) x 86 (fun s => [(0, vR x.2.2.2 x0), (1, .int x1), (2, .int x2), (4, .int x4), (5, .int s.1)]) [] (fun s => s.2) (TL (S := (Int32 × Hp)) x 13 (fun s => [(0, vR x.2.2.2 x0), (1, .int x1), (2, .int s.1)]) [] (fun s => s.2) (fun r => r = u)))) := by
              intro x6 h
              have hb204 : ∀ (x0 : Nat) (x1 : Int32) (x2 : Int32) (x4 : Int32) (x5 : Int32) (x6 : Int32) (h : Hp), J x 204 [(0, vR x.2.2.2 x0), (1, .int x1), (2, .int x2), (4, .int x4), (5, .int x5), (6, .int x6)] [] h (mX12_laysDuel_b204 x0 x1 x2 x4 x5 x6 h) (TL (S := (Int32 × Hp)) x 100 (fun s => [(0, vR x.2.2.2 x0), (1, .int x1), (2, .int x2), (4, .int x4), (5, .int x5), (6, .int s.1)]) [] (fun s => s.2) (TL (S := (Int32 × Hp)) x 86 (fun s => [(0, vR x.2.2.2 x0), (1, .int x1), (2, .int x2), (4, .int x4), (5, .int s.1)]) [] (fun s => s.2) (TL (S := (Int32 × Hp)) x 13 (fun s => [(0, vR x.2.2.2 x0), (1, .int x1), (2, .int s.1)]) [] (fun s => s.2) (fun r => r = u)))) := by
                intro x0 x1 x2 x4 x5 x6 h
                unfold mX12_laysDuel_b204
                refine j_iinc (q := 207) (l2 := [(0, vR x.2.2.2 x0), (1, .int x1), (2, .int x2), (4, .int x4), (5, .int x5)]) hx (dc kX12_laysDuel_1 53 rfl) 5 rfl (v := (1 : Int32)) (by decide) (hn 6 (by decide)) [0, 1, 2, 3, 4] rfl ⟨⟨show (0 : Nat) ≠ 6 by decide, Or.inl (show (0 : Nat) + 1 ≠ 6 by decide)⟩, ⟨⟨show (1 : Nat) ≠ 6 by decide, Or.inl (show (1 : Nat) + 1 ≠ 6 by decide)⟩, ⟨⟨show (2 : Nat) ≠ 6 by decide, Or.inl (show (2 : Nat) + 1 ≠ 6 by decide)⟩, ⟨⟨show (4 : Nat) ≠ 6 by decide, Or.inl (show (4 : Nat) + 1 ≠ 6 by decide)⟩, ⟨⟨show (5 : Nat) ≠ 6 by decide, Or.inr rfl⟩, trivial⟩⟩⟩⟩⟩ rfl ?_
                refine j_goto (q := 100) hx (dc kX12_laysDuel_1 54 rfl) (by decide) ?_
                exact j_back [1, 2, 3, 4, 5, 0] ((x6 + (1 : Int32)), h) rfl rfl
              have hb203 : ∀ (x0 : Nat) (x1 : Int32) (x2 : Int32) (x4 : Int32) (x5 : Int32) (x6 : Int32) (t0 : Nat) (t1 : Int32) (t2 : Int32) (h : Hp), J x 203 [(0, vR x.2.2.2 x0), (1, .int x1), (2, .int x2), (4, .int x4), (5, .int x5), (6, .int x6)] [.int t2, .int t1, vR x.2.2.2 t0] h (mX12_laysDuel_b203 x0 x1 x2 x4 x5 x6 t0 t1 t2 h) (TL (S := (Int32 × Hp)) x 100 (fun s => [(0, vR x.2.2.2 x0), (1, .int x1), (2, .int x2), (4, .int x4), (5, .int x5), (6, .int s.1)]) [] (fun s => s.2) (TL (S := (Int32 × Hp)) x 86 (fun s => [(0, vR x.2.2.2 x0), (1, .int x1), (2, .int x2), (4, .int x4), (5, .int s.1)]) [] (fun s => s.2) (TL (S := (Int32 × Hp)) x 13 (fun s => [(0, vR x.2.2.2 x0), (1, .int x1), (2, .int s.1)]) [] (fun s => s.2) (fun r => r = u)))) := by
                intro x0 x1 x2 x4 x5 x6 t0 t1 t2 h
                unfold mX12_laysDuel_b203
                refine w_stI (q := 204) hx (dc kX12_laysDuel_1 52 rfl) rfl (fun h32 => ?_)
                exact hb204 x0 x1 x2 x4 x5 x6 h32
              unfold mX12_laysDuel_l100f
              refine j_iload (q := 102) hx (dc kX12_laysDuel_0 61 rfl) 5 rfl rfl ?_
              refine j_iconst (q := 103) (v := (3 : Int32)) hx (dc kX12_laysDuel_0 62 rfl) (by decide) rfl ?_
              refine j_icmp_geS (q := 106) (tgt := 210) hx (dc kX12_laysDuel_0 63 rfl) (by decide) rfl ?_ ?_
              · refine j_exit ?_
                exact j_sub [0, 1, 2, 3, 4] rfl (hb210 x0 x1 x2 x4 x5 h)
              · refine j_aload_n (q := 107) hx (dc kX12_laysDuel_1 0 rfl) rfl 0 rfl rfl ?_
                refine j_iload (q := 109) hx (dc kX12_laysDuel_1 1 rfl) 4 rfl rfl ?_
                refine w_cVIR (q := 112) (As := [.int x5]) (st := []) hx (dc kX12_laysDuel_1 2 rfl) cf12 (by decide) rfl (cI _ my_X12_isKnown lm_X12_326 (by decide)) vs_X12_isKnown rfl (fun u hu => sX12_isKnown _ _ _ _ _ _ hu) (fun e => ite_ne (by unfold mX12_isKnown at e; exact e)) (Nat.zero_le _) rfl (fun v20 => ?_)
                refine j_if_neS (q := 115) (tgt := 210) hx (dc kX12_laysDuel_1 3 rfl) (by decide) rfl ?_ ?_
                · refine j_exit ?_
                  exact j_sub [0, 1, 2, 3, 4] rfl (hb210 x0 x1 x2 x4 x5 h)
                · refine j_iload_n (q := 116) hx (dc kX12_laysDuel_1 4 rfl) rfl 2 rfl rfl ?_
                  refine j_iload (q := 118) hx (dc kX12_laysDuel_1 5 rfl) 5 rfl rfl ?_
                  refine j_gs (a := 3) (q := 121) hx (dc kX12_laysDuel_1 6 rfl) gs_X12_432 gz_3 rfl ?_
                  refine j_iload (q := 123) hx (dc kX12_laysDuel_1 7 rfl) 4 rfl rfl ?_
                  refine j_ldI (q := 124) hx (dc kX12_laysDuel_1 8 rfl) rfl (fun v22 => ?_)
                  refine j_imul (q := 125) hx (dc kX12_laysDuel_1 9 rfl) rfl ?_
                  refine j_iadd (q := 126) hx (dc kX12_laysDuel_1 10 rfl) rfl ?_
                  refine j_istore (q := 128) (i := 7) (l2 := [(0, vR x.2.2.2 x0), (1, .int x1), (2, .int x2), (4, .int x4), (5, .int x5), (6, .int x6)]) hx (dc kX12_laysDuel_1 11 rfl) (hn 7 (by decide)) [0, 1, 2, 3, 4, 5] rfl ⟨⟨show (0 : Nat) ≠ 7 by decide, Or.inl (show (0 : Nat) + 1 ≠ 7 by decide)⟩, ⟨⟨show (1 : Nat) ≠ 7 by decide, Or.inl (show (1 : Nat) + 1 ≠ 7 by decide)⟩, ⟨⟨show (2 : Nat) ≠ 7 by decide, Or.inl (show (2 : Nat) + 1 ≠ 7 by decide)⟩, ⟨⟨show (4 : Nat) ≠ 7 by decide, Or.inl (show (4 : Nat) + 1 ≠ 7 by decide)⟩, ⟨⟨show (5 : Nat) ≠ 7 by decide, Or.inl (show (5 : Nat) + 1 ≠ 7 by decide)⟩, ⟨⟨show (6 : Nat) ≠ 7 by decide, Or.inr rfl⟩, trivial⟩⟩⟩⟩⟩⟩ rfl ?_
                  refine j_aload_n (q := 129) hx (dc kX12_laysDuel_1 12 rfl) rfl 1 rfl rfl ?_
                  refine w_gR (q := 132) hx (dc kX12_laysDuel_1 13 rfl) ff_X12_33 lk_X12_67 rfl (fun v23 => ?_)
                  refine j_iload (q := 134) hx (dc kX12_laysDuel_1 14 rfl) 0 rfl rfl ?_
                  refine j_ldI (q := 135) hx (dc kX12_laysDuel_1 15 rfl) rfl (fun v24 => ?_)
                  refine j_if_leS (q := 138) (tgt := 204) hx (dc kX12_laysDuel_1 16 rfl) (by decide) rfl ?_ ?_
                  · exact j_sub [1, 2, 3, 4, 5, 6] rfl (hb204 x0 x1 x2 x4 x5 x6 h)
                  · refine j_aload_n (q := 139) hx (dc kX12_laysDuel_1 17 rfl) rfl 1 rfl rfl ?_
                    refine w_gR (q := 142) hx (dc kX12_laysDuel_1 18 rfl) ff_X12_35 lk_X12_73 rfl (fun v25 => ?_)
                    refine j_iload_n (q := 143) hx (dc kX12_laysDuel_1 19 rfl) rfl 3 rfl rfl ?_
                    refine j_aload_n (q := 144) hx (dc kX12_laysDuel_1 20 rfl) rfl 1 rfl rfl ?_
                    refine w_gR (q := 147) hx (dc kX12_laysDuel_1 21 rfl) ff_X12_35 lk_X12_73 rfl (fun v26 => ?_)
                    refine j_iload_n (q := 148) hx (dc kX12_laysDuel_1 22 rfl) rfl 3 rfl rfl ?_
                    refine j_ldI (q := 149) hx (dc kX12_laysDuel_1 23 rfl) rfl (fun v27 => ?_)
                    refine j_iconst (q := 150) (v := (-1 : Int32)) hx (dc kX12_laysDuel_1 24 rfl) (by decide) rfl ?_
                    refine j_icmp_neS (q := 153) (tgt := 163) hx (dc kX12_laysDuel_1 25 rfl) (by decide) rfl ?_ ?_
                    · refine j_iload (q := 165) hx (dc kX12_laysDuel_1 31 rfl) 4 rfl rfl ?_
                      refine j_if_eq (q := 168) (tgt := 187) hx (dc kX12_laysDuel_1 32 rfl) (by decide) Iff.rfl rfl ?_ ?_
                      · refine j_aload_n (q := 188) hx (dc kX12_laysDuel_1 43 rfl) rfl 1 rfl rfl ?_
                        refine w_gR (q := 191) hx (dc kX12_laysDuel_1 44 rfl) ff_X12_35 lk_X12_73 rfl (fun v28 => ?_)
                        refine j_iload_n (q := 192) hx (dc kX12_laysDuel_1 45 rfl) rfl 3 rfl rfl ?_
                        refine j_ldI (q := 193) hx (dc kX12_laysDuel_1 46 rfl) rfl (fun v29 => ?_)
                        refine j_aload_n (q := 194) hx (dc kX12_laysDuel_1 47 rfl) rfl 1 rfl rfl ?_
                        refine w_gR (q := 197) hx (dc kX12_laysDuel_1 48 rfl) ff_X12_35 lk_X12_73 rfl (fun v30 => ?_)
                        refine j_iload (q := 199) hx (dc kX12_laysDuel_1 49 rfl) 0 rfl rfl ?_
                        refine j_ldI (q := 200) hx (dc kX12_laysDuel_1 50 rfl) rfl (fun v31 => ?_)
                        refine w_mmin (q := 203) hx (dc kX12_laysDuel_1 51 rfl) lm_X12_345 ms_mmin ms_init mc_mmin (by decide) (sum_le (sum_I (sum_R sum_nil)) (by decide)) rfl ?_
                        exact j_sub [1, 2, 3, 4, 5, 6] rfl (hb203 x0 x1 x2 x4 x5 x6 v25 x2 (mmin v29 v31) h)
                      · refine j_aload_n (q := 169) hx (dc kX12_laysDuel_1 33 rfl) rfl 1 rfl rfl ?_
                        refine w_gR (q := 172) hx (dc kX12_laysDuel_1 34 rfl) ff_X12_35 lk_X12_73 rfl (fun v33 => ?_)
                        refine j_iload_n (q := 173) hx (dc kX12_laysDuel_1 35 rfl) rfl 3 rfl rfl ?_
                        refine j_ldI (q := 174) hx (dc kX12_laysDuel_1 36 rfl) rfl (fun v34 => ?_)
                        refine j_aload_n (q := 175) hx (dc kX12_laysDuel_1 37 rfl) rfl 1 rfl rfl ?_
                        refine w_gR (q := 178) hx (dc kX12_laysDuel_1 38 rfl) ff_X12_35 lk_X12_73 rfl (fun v35 => ?_)
                        refine j_iload (q := 180) hx (dc kX12_laysDuel_1 39 rfl) 0 rfl rfl ?_
                        refine j_ldI (q := 181) hx (dc kX12_laysDuel_1 40 rfl) rfl (fun v36 => ?_)
                        refine w_mmax (q := 184) hx (dc kX12_laysDuel_1 41 rfl) lm_X12_444 ms_mmax ms_init mc_mmax (by decide) (sum_le (sum_I (sum_R sum_nil)) (by decide)) rfl ?_
                        refine j_goto (q := 203) hx (dc kX12_laysDuel_1 42 rfl) (by decide) ?_
                        exact j_sub [1, 2, 3, 4, 5, 6] rfl (hb203 x0 x1 x2 x4 x5 x6 v25 x2 (mmax v34 v36) h)
                    · refine j_aload_n (q := 154) hx (dc kX12_laysDuel_1 26 rfl) rfl 1 rfl rfl ?_
                      refine w_gR (q := 157) hx (dc kX12_laysDuel_1 27 rfl) ff_X12_35 lk_X12_73 rfl (fun v37 => ?_)
                      refine j_iload (q := 159) hx (dc kX12_laysDuel_1 28 rfl) 0 rfl rfl ?_
                      refine j_ldI (q := 160) hx (dc kX12_laysDuel_1 29 rfl) rfl (fun v38 => ?_)
                      refine j_goto (q := 203) hx (dc kX12_laysDuel_1 30 rfl) (by decide) ?_
                      exact j_sub [1, 2, 3, 4, 5, 6] rfl (hb203 x0 x1 x2 x4 x5 x6 v25 x2 v38 h)
            exact j_loop (S := (Int32 × Hp)) (lvf := fun s => [(0, vR x.2.2.2 x0), (1, .int x1), (2, .int x2), (4, .int x4), (5, .int x5), (6, .int s.1)]) (hpf := fun s => s.2) (f := (fun s : (Int32 × Hp) => mX12_laysDuel_l100f x0 x1 x2 x4 x5 s.1 s.2)) (fun s => hB s.1 s.2) (x6, h)
          unfold mX12_laysDuel_l86f
          refine j_iload (q := 88) hx (dc kX12_laysDuel_0 53 rfl) 4 rfl rfl ?_
          refine j_aload_n (q := 89) hx (dc kX12_laysDuel_0 54 rfl) rfl 0 rfl rfl ?_
          refine w_gR (q := 92) hx (dc kX12_laysDuel_0 55 rfl) ff_X12_0 lk_X12_7 rfl (fun v10 => ?_)
          refine j_iconst (q := 93) (v := (1 : Int32)) hx (dc kX12_laysDuel_0 56 rfl) (by decide) rfl ?_
          refine j_ldI (q := 94) hx (dc kX12_laysDuel_0 57 rfl) rfl (fun v11 => ?_)
          refine j_icmp_geS (q := 97) (tgt := 224) hx (dc kX12_laysDuel_0 58 rfl) (by decide) rfl ?_ ?_
          · refine j_exit ?_
            refine j_aload_n (q := 225) hx (dc kX12_laysDuel_1 63 rfl) rfl 0 rfl rfl ?_
            refine w_gR (q := 228) hx (dc kX12_laysDuel_2 0 rfl) ff_X12_35 lk_X12_73 rfl (fun v12 => ?_)
            refine j_iload_n (q := 229) hx (dc kX12_laysDuel_2 1 rfl) rfl 2 rfl rfl ?_
            refine j_ldI (q := 230) hx (dc kX12_laysDuel_2 2 rfl) rfl (fun v13 => ?_)
            refine j_iconst (q := 231) (v := (-1 : Int32)) hx (dc kX12_laysDuel_2 3 rfl) (by decide) rfl ?_
            refine j_icmp_neS (q := 234) (tgt := 254) hx (dc kX12_laysDuel_2 4 rfl) (by decide) rfl ?_ ?_
            · exact j_sub [0, 1, 2] rfl (hb254 x0 x1 x2 h)
            · refine j_aload_n (q := 235) hx (dc kX12_laysDuel_2 5 rfl) rfl 0 rfl rfl ?_
              refine w_gR (q := 238) hx (dc kX12_laysDuel_2 6 rfl) ff_X12_35 lk_X12_73 rfl (fun v14 => ?_)
              refine j_iload_n (q := 239) hx (dc kX12_laysDuel_2 7 rfl) rfl 2 rfl rfl ?_
              refine j_aload_n (q := 240) hx (dc kX12_laysDuel_2 8 rfl) rfl 0 rfl rfl ?_
              refine w_gR (q := 243) hx (dc kX12_laysDuel_2 9 rfl) ff_X12_34 lk_X12_70 rfl (fun v15 => ?_)
              refine j_iload_n (q := 244) hx (dc kX12_laysDuel_2 10 rfl) rfl 2 rfl rfl ?_
              refine j_ldI (q := 245) hx (dc kX12_laysDuel_2 11 rfl) rfl (fun v16 => ?_)
              refine j_if_leS (q := 248) (tgt := 252) hx (dc kX12_laysDuel_2 12 rfl) (by decide) rfl ?_ ?_
              · refine j_iconst (q := 253) (v := (0 : Int32)) hx (dc kX12_laysDuel_2 15 rfl) (by decide) rfl ?_
                exact j_sub [0, 1, 2] rfl (hb253 x0 x1 x2 v14 x2 (0 : Int32) h)
              · refine j_iconst (q := 249) (v := (1 : Int32)) hx (dc kX12_laysDuel_2 13 rfl) (by decide) rfl ?_
                refine j_goto (q := 253) hx (dc kX12_laysDuel_2 14 rfl) (by decide) ?_
                exact j_sub [0, 1, 2] rfl (hb253 x0 x1 x2 v14 x2 (1 : Int32) h)
          · refine j_iconst (q := 98) (v := (1 : Int32)) hx (dc kX12_laysDuel_0 59 rfl) (by decide) rfl ?_
            refine j_istore (q := 100) (i := 6) (l2 := [(0, vR x.2.2.2 x0), (1, .int x1), (2, .int x2), (4, .int x4), (5, .int x5)]) hx (dc kX12_laysDuel_0 60 rfl) (hn 6 (by decide)) [0, 1, 2, 3, 4] rfl ⟨⟨show (0 : Nat) ≠ 6 by decide, Or.inl (show (0 : Nat) + 1 ≠ 6 by decide)⟩, ⟨⟨show (1 : Nat) ≠ 6 by decide, Or.inl (show (1 : Nat) + 1 ≠ 6 by decide)⟩, ⟨⟨show (2 : Nat) ≠ 6 by decide, Or.inl (show (2 : Nat) + 1 ≠ 6 by decide)⟩, ⟨⟨show (4 : Nat) ≠ 6 by decide, Or.inl (show (4 : Nat) + 1 ≠ 6 by decide)⟩, ⟨⟨show (5 : Nat) ≠ 6 by decide, Or.inr rfl⟩, trivial⟩⟩⟩⟩⟩ rfl ?_
            exact j_sub [1, 2, 3, 4, 5, 0] rfl (hb100 x0 x1 x2 x4 x5 (1 : Int32) h)
        exact j_loop (S := (Int32 × Hp)) (lvf := fun s => [(0, vR x.2.2.2 x0), (1, .int x1), (2, .int x2), (4, .int x4), (5, .int s.1)]) (hpf := fun s => s.2) (f := (fun s : (Int32 × Hp) => mX12_laysDuel_l86f x0 x1 x2 x4 s.1 s.2)) (fun s => hB s.1 s.2) (x5, h)
      have hb69 : ∀ (x0 : Nat) (x1 : Int32) (x2 : Int32) (t0 : Int32) (h : Hp), J x 69 [(0, vR x.2.2.2 x0), (1, .int x1), (2, .int x2)] [.int t0] h (mX12_laysDuel_b69 x0 x1 x2 t0 h) (TL (S := (Int32 × Hp)) x 13 (fun s => [(0, vR x.2.2.2 x0), (1, .int x1), (2, .int s.1)]) [] (fun s => s.2) (fun r => r = u)) := by
        intro x0 x1 x2 t0 h
        unfold mX12_laysDuel_b69
        refine j_istore (q := 71) (i := 4) (l2 := [(0, vR x.2.2.2 x0), (1, .int x1), (2, .int x2)]) hx (dc kX12_laysDuel_0 42 rfl) (hn 4 (by decide)) [0, 1, 2] rfl ⟨⟨show (0 : Nat) ≠ 4 by decide, Or.inl (show (0 : Nat) + 1 ≠ 4 by decide)⟩, ⟨⟨show (1 : Nat) ≠ 4 by decide, Or.inl (show (1 : Nat) + 1 ≠ 4 by decide)⟩, ⟨⟨show (2 : Nat) ≠ 4 by decide, Or.inl (show (2 : Nat) + 1 ≠ 4 by decide)⟩, trivial⟩⟩⟩ rfl ?_
        refine j_aload_n (q := 72) hx (dc kX12_laysDuel_0 43 rfl) rfl 1 rfl rfl ?_
        refine w_gR (q := 75) hx (dc kX12_laysDuel_0 44 rfl) ff_X12_35 lk_X12_73 rfl (fun v6 => ?_)
        refine j_iload_n (q := 76) hx (dc kX12_laysDuel_0 45 rfl) rfl 3 rfl rfl ?_
        refine j_iconst (q := 77) (v := (-1 : Int32)) hx (dc kX12_laysDuel_0 46 rfl) (by decide) rfl ?_
        refine w_stI (q := 78) hx (dc kX12_laysDuel_0 47 rfl) rfl (fun h7 => ?_)
        refine j_aload_n (q := 79) hx (dc kX12_laysDuel_0 48 rfl) rfl 1 rfl rfl ?_
        refine j_iload_n (q := 80) hx (dc kX12_laysDuel_0 49 rfl) rfl 3 rfl rfl ?_
        refine j_iconst (q := 81) (v := (0 : Int32)) hx (dc kX12_laysDuel_0 50 rfl) (by decide) rfl ?_
        refine w_cVIR (q := 84) (As := [.int x2, .int (0 : Int32)]) (st := []) hx (dc kX12_laysDuel_0 51 rfl) cf12 (by decide) rfl (cI _ my_X12_untold lm_X12_438 (by decide)) vs_X12_untold rfl (fun u hu => sX12_untold _ _ _ _ _ _ _ hu) (fun e => ite_ne (by unfold mX12_untold at e; exact e)) (Nat.zero_le _) rfl (fun v8 => ?_)
        refine j_istore (q := 86) (i := 5) (l2 := [(4, .int t0), (0, vR x.2.2.2 x0), (1, .int x1), (2, .int x2)]) hx (dc kX12_laysDuel_0 52 rfl) (hn 5 (by decide)) [0, 1, 2, 3] rfl ⟨⟨show (4 : Nat) ≠ 5 by decide, Or.inr rfl⟩, ⟨⟨show (0 : Nat) ≠ 5 by decide, Or.inl (show (0 : Nat) + 1 ≠ 5 by decide)⟩, ⟨⟨show (1 : Nat) ≠ 5 by decide, Or.inl (show (1 : Nat) + 1 ≠ 5 by decide)⟩, ⟨⟨show (2 : Nat) ≠ 5 by decide, Or.inl (show (2 : Nat) + 1 ≠ 5 by decide)⟩, trivial⟩⟩⟩⟩ rfl ?_
        exact j_sub [2, 3, 4, 1, 0] rfl (hb86 x0 x1 x2 t0 v8 h7)
      have hb22 : ∀ (x0 : Nat) (x1 : Int32) (x2 : Int32) (x3 : Int32) (x4 : Int32) (h : Hp), J x 22 [(0, vR x.2.2.2 x0), (1, .int x1), (2, .int x2), (3, .int x3), (4, .int x4)] [] h (mX12_laysDuel_l22 x0 x1 x2 x3 x4 h) (TL (S := (Int32 × Hp)) x 13 (fun s => [(0, vR x.2.2.2 x0), (1, .int x1), (2, .int s.1)]) [] (fun s => s.2) (fun r => r = u)) := by
        intro x0 x1 x2 x3 x4 h
        have hB : ∀ (x3 : Int32) (x4 : Int32), J x 22 [(0, vR x.2.2.2 x0), (1, .int x1), (2, .int x2), (3, .int x3), (4, .int x4)] [] h (mX12_laysDuel_l22f x0 x1 x2 h x3 x4) (TL (S := (Int32 × Int32)) x 22 (fun s => [(0, vR x.2.2.2 x0), (1, .int x1), (2, .int x2), (3, .int s.1), (4, .int s.2)]) [] (fun s => h) (TL (S := (Int32 × Hp)) x 13 (fun s => [(0, vR x.2.2.2 x0), (1, .int x1), (2, .int s.1)]) [] (fun s => s.2) (fun r => r = u))) := by
          intro x3 x4
          have hb48 : ∀ (x0 : Nat) (x1 : Int32) (x2 : Int32) (x4 : Int32) (t0 : Int32) (t1 : Int32) (h : Hp), J x 48 [(0, vR x.2.2.2 x0), (1, .int x1), (2, .int x2), (4, .int x4)] [.int t1, .int t0] h (mX12_laysDuel_b48 x0 x1 x2 x4 t0 t1 h) (TL (S := (Int32 × Int32)) x 22 (fun s => [(0, vR x.2.2.2 x0), (1, .int x1), (2, .int x2), (3, .int s.1), (4, .int s.2)]) [] (fun s => h) (TL (S := (Int32 × Hp)) x 13 (fun s => [(0, vR x.2.2.2 x0), (1, .int x1), (2, .int s.1)]) [] (fun s => s.2) (fun r => r = u))) := by
            intro x0 x1 x2 x4 t0 t1 h
            unfold mX12_laysDuel_b48
            refine j_iadd (q := 49) hx (dc kX12_laysDuel_0 29 rfl) rfl ?_
            refine j_istore_n (q := 50) (i := 3) (l2 := [(0, vR x.2.2.2 x0), (1, .int x1), (2, .int x2), (4, .int x4)]) hx (dc kX12_laysDuel_0 30 rfl) rfl (hn 3 (by decide)) [0, 1, 2, 3] rfl ⟨⟨show (0 : Nat) ≠ 3 by decide, Or.inl (show (0 : Nat) + 1 ≠ 3 by decide)⟩, ⟨⟨show (1 : Nat) ≠ 3 by decide, Or.inl (show (1 : Nat) + 1 ≠ 3 by decide)⟩, ⟨⟨show (2 : Nat) ≠ 3 by decide, Or.inr rfl⟩, ⟨⟨show (4 : Nat) ≠ 3 by decide, Or.inl (show (4 : Nat) + 1 ≠ 3 by decide)⟩, trivial⟩⟩⟩⟩ rfl ?_
            refine j_iinc (q := 53) (l2 := [(3, .int (t0 + t1)), (0, vR x.2.2.2 x0), (1, .int x1), (2, .int x2)]) hx (dc kX12_laysDuel_0 31 rfl) 4 rfl (v := (1 : Int32)) (by decide) (hn 4 (by decide)) [0, 1, 2, 3] rfl ⟨⟨show (3 : Nat) ≠ 4 by decide, Or.inr rfl⟩, ⟨⟨show (0 : Nat) ≠ 4 by decide, Or.inl (show (0 : Nat) + 1 ≠ 4 by decide)⟩, ⟨⟨show (1 : Nat) ≠ 4 by decide, Or.inl (show (1 : Nat) + 1 ≠ 4 by decide)⟩, ⟨⟨show (2 : Nat) ≠ 4 by decide, Or.inl (show (2 : Nat) + 1 ≠ 4 by decide)⟩, trivial⟩⟩⟩⟩ rfl ?_
            refine j_goto (q := 22) hx (dc kX12_laysDuel_0 32 rfl) (by decide) ?_
            exact j_back [2, 3, 4, 1, 0] ((t0 + t1), (x4 + (1 : Int32))) rfl rfl
          unfold mX12_laysDuel_l22f
          refine j_iload (q := 24) hx (dc kX12_laysDuel_0 15 rfl) 4 rfl rfl ?_
          refine j_aload_n (q := 25) hx (dc kX12_laysDuel_0 16 rfl) rfl 0 rfl rfl ?_
          refine w_gR (q := 28) hx (dc kX12_laysDuel_0 17 rfl) ff_X12_0 lk_X12_7 rfl (fun v4 => ?_)
          refine j_iconst (q := 29) (v := (1 : Int32)) hx (dc kX12_laysDuel_0 18 rfl) (by decide) rfl ?_
          refine j_ldI (q := 30) hx (dc kX12_laysDuel_0 19 rfl) rfl (fun v5 => ?_)
          refine j_icmp_geS (q := 33) (tgt := 56) hx (dc kX12_laysDuel_0 20 rfl) (by decide) rfl ?_ ?_
          · refine j_exit ?_
            refine j_iload_n (q := 57) hx (dc kX12_laysDuel_0 33 rfl) rfl 1 rfl rfl ?_
            refine j_iload_n (q := 58) hx (dc kX12_laysDuel_0 34 rfl) rfl 3 rfl rfl ?_
            refine j_iadd (q := 59) hx (dc kX12_laysDuel_0 35 rfl) rfl ?_
            refine j_iconst (q := 60) (v := (2 : Int32)) hx (dc kX12_laysDuel_0 36 rfl) (by decide) rfl ?_
            refine j_irem (q := 61) hx (dc kX12_laysDuel_0 37 rfl) rfl ?_
            refine j_if_neS (q := 64) (tgt := 68) hx (dc kX12_laysDuel_0 38 rfl) (by decide) rfl ?_ ?_
            · refine j_iconst (q := 69) (v := (0 : Int32)) hx (dc kX12_laysDuel_0 41 rfl) (by decide) rfl ?_
              exact j_sub [0, 1, 2] rfl (hb69 x0 x1 x2 (0 : Int32) h)
            · refine j_iconst (q := 65) (v := (1 : Int32)) hx (dc kX12_laysDuel_0 39 rfl) (by decide) rfl ?_
              refine j_goto (q := 69) hx (dc kX12_laysDuel_0 40 rfl) (by decide) ?_
              exact j_sub [0, 1, 2] rfl (hb69 x0 x1 x2 (1 : Int32) h)
          · refine j_iload_n (q := 34) hx (dc kX12_laysDuel_0 21 rfl) rfl 3 rfl rfl ?_
            refine j_iload_n (q := 35) hx (dc kX12_laysDuel_0 22 rfl) rfl 2 rfl rfl ?_
            refine j_iload (q := 37) hx (dc kX12_laysDuel_0 23 rfl) 4 rfl rfl ?_
            refine w_cSIR (q := 40) (As := [.int x2, .int x4]) (st := [.int x3]) hx (dc kX12_laysDuel_0 24 rfl) (cI _ my_X12_tells lm_X12_435 (by decide)) st_X12_tells rfl (fun u hu => sX12_tells _ _ _ _ _ _ hu) (sum_le (sum_I sum_nil) (by decide)) rfl (fun v39 => ?_)
            refine j_if_eq (q := 43) (tgt := 47) hx (dc kX12_laysDuel_0 25 rfl) (by decide) Iff.rfl rfl ?_ ?_
            · refine j_iconst (q := 48) (v := (0 : Int32)) hx (dc kX12_laysDuel_0 28 rfl) (by decide) rfl ?_
              exact j_sub [0, 1, 2, 4] rfl (hb48 x0 x1 x2 x4 x3 (0 : Int32) h)
            · refine j_iconst (q := 44) (v := (1 : Int32)) hx (dc kX12_laysDuel_0 26 rfl) (by decide) rfl ?_
              refine j_goto (q := 48) hx (dc kX12_laysDuel_0 27 rfl) (by decide) ?_
              exact j_sub [0, 1, 2, 4] rfl (hb48 x0 x1 x2 x4 x3 (1 : Int32) h)
        exact j_loop (S := (Int32 × Int32)) (lvf := fun s => [(0, vR x.2.2.2 x0), (1, .int x1), (2, .int x2), (3, .int s.1), (4, .int s.2)]) (hpf := fun s => h) (f := (fun s : (Int32 × Int32) => mX12_laysDuel_l22f x0 x1 x2 h s.1 s.2)) (fun s => hB s.1 s.2) (x3, x4)
      unfold mX12_laysDuel_l13f
      refine j_iload_n (q := 14) hx (dc kX12_laysDuel_0 9 rfl) rfl 2 rfl rfl ?_
      refine j_if_lt (q := 17) (tgt := 260) hx (dc kX12_laysDuel_0 10 rfl) (by decide) Iff.rfl rfl ?_ ?_
      · refine j_exit ?_
        exact r_vW hx hR (dc kX12_laysDuel_2 19 rfl)
      · refine j_iconst (q := 18) (v := (0 : Int32)) hx (dc kX12_laysDuel_0 11 rfl) (by decide) rfl ?_
        refine j_istore_n (q := 19) (i := 3) (l2 := [(0, vR x.2.2.2 x0), (1, .int x1), (2, .int x2)]) hx (dc kX12_laysDuel_0 12 rfl) rfl (hn 3 (by decide)) [0, 1, 2] rfl ⟨⟨show (0 : Nat) ≠ 3 by decide, Or.inl (show (0 : Nat) + 1 ≠ 3 by decide)⟩, ⟨⟨show (1 : Nat) ≠ 3 by decide, Or.inl (show (1 : Nat) + 1 ≠ 3 by decide)⟩, ⟨⟨show (2 : Nat) ≠ 3 by decide, Or.inr rfl⟩, trivial⟩⟩⟩ rfl ?_
        refine j_iconst (q := 20) (v := (0 : Int32)) hx (dc kX12_laysDuel_0 13 rfl) (by decide) rfl ?_
        refine j_istore (q := 22) (i := 4) (l2 := [(3, .int (0 : Int32)), (0, vR x.2.2.2 x0), (1, .int x1), (2, .int x2)]) hx (dc kX12_laysDuel_0 14 rfl) (hn 4 (by decide)) [0, 1, 2, 3] rfl ⟨⟨show (3 : Nat) ≠ 4 by decide, Or.inr rfl⟩, ⟨⟨show (0 : Nat) ≠ 4 by decide, Or.inl (show (0 : Nat) + 1 ≠ 4 by decide)⟩, ⟨⟨show (1 : Nat) ≠ 4 by decide, Or.inl (show (1 : Nat) + 1 ≠ 4 by decide)⟩, ⟨⟨show (2 : Nat) ≠ 4 by decide, Or.inl (show (2 : Nat) + 1 ≠ 4 by decide)⟩, trivial⟩⟩⟩⟩ rfl ?_
        exact j_sub [2, 3, 4, 1, 0] rfl (hb22 x0 x1 x2 (0 : Int32) (0 : Int32) h)
    exact j_loop (S := (Int32 × Hp)) (lvf := fun s => [(0, vR x.2.2.2 x0), (1, .int x1), (2, .int s.1)]) (hpf := fun s => s.2) (f := (fun s : (Int32 × Hp) => mX12_laysDuel_l13f x0 x1 s.1 s.2)) (fun s => hB s.1 s.2) (x2, h)
  unfold mX12_laysDuel
  refine J.ckd fun hck => ?_
  refine j_gs (a := 3) (q := 3) hx (dc kX12_laysDuel_0 0 rfl) gs_X12_432 gz_3 rfl ?_
  refine j_aload_n (q := 4) hx (dc kX12_laysDuel_0 1 rfl) rfl 0 rfl rfl ?_
  refine w_gR (q := 7) hx (dc kX12_laysDuel_0 2 rfl) ff_X12_0 lk_X12_7 rfl (fun v1 => ?_)
  refine j_iconst (q := 8) (v := (1 : Int32)) hx (dc kX12_laysDuel_0 3 rfl) (by decide) rfl ?_
  refine j_ldI (q := 9) hx (dc kX12_laysDuel_0 4 rfl) rfl (fun v2 => ?_)
  refine j_ldI (q := 10) hx (dc kX12_laysDuel_0 5 rfl) rfl (fun v3 => ?_)
  refine j_iconst (q := 11) (v := (1 : Int32)) hx (dc kX12_laysDuel_0 6 rfl) (by decide) rfl ?_
  refine j_isub (q := 12) hx (dc kX12_laysDuel_0 7 rfl) rfl ?_
  refine j_istore_n (q := 13) (i := 2) (l2 := [(0, vR x.2.2.2 x0), (1, .int x1)]) hx (dc kX12_laysDuel_0 8 rfl) rfl (hn 2 (by decide)) [0, 1] rfl ⟨⟨show (0 : Nat) ≠ 2 by decide, Or.inl (show (0 : Nat) + 1 ≠ 2 by decide)⟩, ⟨⟨show (1 : Nat) ≠ 2 by decide, Or.inr rfl⟩, trivial⟩⟩ rfl ?_
  exact j_sub [1, 2, 0] rfl (hb13 x0 x1 (v3 - (1 : Int32)) h)

set_option maxHeartbeats 4000000 in
set_option maxRecDepth 100000 in
theorem sX12_duel (l : Launch) (w : Wd) (x0 : Nat) (x1 : Int32) (x2 : Int32) (h : Hp) (u : (Int32 × Hp)) (hK : mX12_duel x0 x1 x2 h = some u) : M1 l w mi_X12_duel 4 [vR w x0, .int x1, .int x2] h u.2 (some (.int u.1)) := by
  refine M1.of (own := RX12) (T := fun _ r => r = u) hK (by decide +kernel) rfl (by first | (simp only [lg_lenR, lg_lenI, lg_lenL, lg_len0]; decide) | decide) (fun x hx hnl hhf hl hw hret hnm hQ h0e => ⟨?_, rfl⟩)
  subst hw
  subst hl
  have hR : Rt x h u.2 (some (.int u.1)) ((some .int)) := ⟨h0e, hhf, hret, hQ⟩
  have hn : ∀ i, i < 3 → i < x.2.2.1.1.1 := fun i hi => by rw [hnl]; exact hi
  have e0 : lv_args 0 [vR x.2.2.2 x0, .int x1, .int x2] = [(0, vR x.2.2.2 x0), (1, .int x1), (2, .int x2)] := by simp only [lv_argsR, lv_argsI, lv_argsL, lv_args0]
  rw [e0]
  unfold mX12_duel
  refine J.ckd fun hck => ?_
  refine j_aload_n (q := 1) hx (dc kX12_duel_0 0 rfl) rfl 0 rfl rfl ?_
  refine j_iload_n (q := 2) hx (dc kX12_duel_0 1 rfl) rfl 1 rfl rfl ?_
  refine w_cVIR (q := 5) (As := [.int x1]) (st := []) hx (dc kX12_duel_0 2 rfl) cf12 (by decide) rfl (cI _ my_X12_isCount lm_X12_380 (by decide)) vs_X12_isCount rfl (fun u hu => sX12_isCount _ _ _ _ _ _ hu) (fun e => ite_ne (by unfold mX12_isCount at e; exact e)) (Nat.zero_le _) rfl (fun v1 => ?_)
  refine j_if_eq (q := 8) (tgt := 17) hx (dc kX12_duel_0 3 rfl) (by decide) Iff.rfl rfl ?_ ?_
  · refine j_iconst (q := 18) (v := (-1 : Int32)) hx (dc kX12_duel_0 9 rfl) (by decide) rfl ?_
    exact r_iW hx hR (dc kX12_duel_0 10 rfl)
  · refine j_iload_n (q := 9) hx (dc kX12_duel_0 4 rfl) rfl 2 rfl rfl ?_
    refine j_iconst (q := 10) (v := (0 : Int32)) hx (dc kX12_duel_0 5 rfl) (by decide) rfl ?_
    refine j_iconst (q := 11) (v := (1 : Int32)) hx (dc kX12_duel_0 6 rfl) (by decide) rfl ?_
    refine w_cSIR (q := 14) (As := [.int x2, .int (0 : Int32), .int (1 : Int32)]) (st := []) hx (dc kX12_duel_0 7 rfl) (cI _ my_X12_in lm_X12_85 (by decide)) st_X12_in rfl (fun u hu => sX12_in _ _ _ _ _ _ _ hu) (Nat.zero_le _) rfl (fun v3 => ?_)
    refine j_if_neS (q := 17) (tgt := 19) hx (dc kX12_duel_0 8 rfl) (by decide) rfl ?_ ?_
    · refine j_aload_n (q := 20) hx (dc kX12_duel_0 11 rfl) rfl 0 rfl rfl ?_
      refine j_iload_n (q := 21) hx (dc kX12_duel_0 12 rfl) rfl 1 rfl rfl ?_
      refine w_cVVW (q := 24) (As := [.int x1]) (st := []) hx (dc kX12_duel_0 13 rfl) cf12 (by decide) rfl (cI _ my_X12_laysWays lm_X12_441 (by decide)) vs_X12_laysWays rfl (fun u hu => sX12_laysWays _ _ _ _ _ _ hu) (fun e => ite_ne (by unfold mX12_laysWays at e; exact e)) (Nat.zero_le _) rfl (fun h6 => ?_)
      refine j_aload_n (q := 25) hx (dc kX12_duel_0 14 rfl) rfl 0 rfl rfl ?_
      refine j_iload_n (q := 26) hx (dc kX12_duel_0 15 rfl) rfl 2 rfl rfl ?_
      refine w_cVVW (q := 29) (As := [.int x2]) (st := []) hx (dc kX12_duel_0 16 rfl) cf12 (by decide) rfl (cI _ my_X12_laysDuel lm_X12_453 (by decide)) vs_X12_laysDuel rfl (fun u hu => sX12_laysDuel _ _ _ _ _ _ hu) (fun e => ite_ne (by unfold mX12_laysDuel at e; exact e)) (Nat.zero_le _) rfl (fun h8 => ?_)
      refine j_aload_n (q := 30) hx (dc kX12_duel_0 17 rfl) rfl 0 rfl rfl ?_
      refine w_gR (q := 33) hx (dc kX12_duel_0 18 rfl) ff_X12_35 lk_X12_73 rfl (fun v9 => ?_)
      refine j_iconst (q := 34) (v := (0 : Int32)) hx (dc kX12_duel_0 19 rfl) (by decide) rfl ?_
      refine j_ldI (q := 35) hx (dc kX12_duel_0 20 rfl) rfl (fun v10 => ?_)
      exact r_iW hx hR (dc kX12_duel_0 21 rfl)
    · refine j_iconst (q := 18) (v := (-1 : Int32)) hx (dc kX12_duel_0 9 rfl) (by decide) rfl ?_
      exact r_iW hx hR (dc kX12_duel_0 10 rfl)

set_option maxHeartbeats 4000000 in
set_option maxRecDepth 100000 in
theorem sX12_turn (l : Launch) (w : Wd) (x0 : Nat) (x1 : Int32) (x2 : Int32) (x3 : Int32) (h : Hp) (u : (Int32 × Hp)) (hK : mX12_turn x0 x1 x2 x3 h = some u) : M1 l w mi_X12_turn 4 [vR w x0, .int x1, .int x2, .int x3] h u.2 (some (.int u.1)) := by
  refine M1.of (own := RX12) (T := fun _ r => r = u) hK (by decide +kernel) rfl (by first | (simp only [lg_lenR, lg_lenI, lg_lenL, lg_len0]; decide) | decide) (fun x hx hnl hhf hl hw hret hnm hQ h0e => ⟨?_, rfl⟩)
  subst hw
  subst hl
  have hR : Rt x h u.2 (some (.int u.1)) ((some .int)) := ⟨h0e, hhf, hret, hQ⟩
  have hn : ∀ i, i < 7 → i < x.2.2.1.1.1 := fun i hi => by rw [hnl]; exact hi
  have e0 : lv_args 0 [vR x.2.2.2 x0, .int x1, .int x2, .int x3] = [(0, vR x.2.2.2 x0), (1, .int x1), (2, .int x2), (3, .int x3)] := by simp only [lv_argsR, lv_argsI, lv_argsL, lv_args0]
  rw [e0]
  have hb41 : ∀ (x0 : Nat) (x2 : Int32) (x3 : Int32) (x4 : Int32) (h : Hp), J x 41 [(0, vR x.2.2.2 x0), (2, .int x2), (3, .int x3), (4, .int x4)] [] h (mX12_turn_l41 x0 x2 x3 x4 h) (fun r => r = u) := by
    intro x0 x2 x3 x4 h
    have hB : ∀ (x4 : Int32), J x 41 [(0, vR x.2.2.2 x0), (2, .int x2), (3, .int x3), (4, .int x4)] [] h (mX12_turn_l41f x0 x2 x3 h x4) (TL (S := Int32) x 41 (fun s => [(0, vR x.2.2.2 x0), (2, .int x2), (3, .int x3), (4, .int s)]) [] (fun s => h) (fun r => r = u)) := by
      intro x4
      have hb124 : ∀ (x0 : Nat) (x2 : Int32) (x3 : Int32) (x4 : Int32) (h : Hp), J x 124 [(0, vR x.2.2.2 x0), (2, .int x2), (3, .int x3), (4, .int x4)] [] h (mX12_turn_b124 x0 x2 x3 x4 h) (TL (S := Int32) x 41 (fun s => [(0, vR x.2.2.2 x0), (2, .int x2), (3, .int x3), (4, .int s)]) [] (fun s => h) (fun r => r = u)) := by
        intro x0 x2 x3 x4 h
        unfold mX12_turn_b124
        refine j_iinc (q := 127) (l2 := [(0, vR x.2.2.2 x0), (2, .int x2), (3, .int x3)]) hx (dc kX12_turn_1 4 rfl) 3 rfl (v := (1 : Int32)) (by decide) (hn 4 (by decide)) [0, 1, 2] rfl ⟨⟨show (0 : Nat) ≠ 4 by decide, Or.inl (show (0 : Nat) + 1 ≠ 4 by decide)⟩, ⟨⟨show (2 : Nat) ≠ 4 by decide, Or.inl (show (2 : Nat) + 1 ≠ 4 by decide)⟩, ⟨⟨show (3 : Nat) ≠ 4 by decide, Or.inr rfl⟩, trivial⟩⟩⟩ rfl ?_
        refine j_goto (q := 41) hx (dc kX12_turn_1 5 rfl) (by decide) ?_
        exact j_back [1, 2, 3, 0] (x4 + (1 : Int32)) rfl rfl
      have hb55 : ∀ (x0 : Nat) (x2 : Int32) (x3 : Int32) (x4 : Int32) (x5 : Int32) (h : Hp), J x 55 [(0, vR x.2.2.2 x0), (2, .int x2), (3, .int x3), (4, .int x4), (5, .int x5)] [] h (mX12_turn_l55 x0 x2 x3 x4 x5 h) (TL (S := Int32) x 41 (fun s => [(0, vR x.2.2.2 x0), (2, .int x2), (3, .int x3), (4, .int s)]) [] (fun s => h) (fun r => r = u)) := by
        intro x0 x2 x3 x4 x5 h
        have hB : ∀ (x5 : Int32), J x 55 [(0, vR x.2.2.2 x0), (2, .int x2), (3, .int x3), (4, .int x4), (5, .int x5)] [] h (mX12_turn_l55f x0 x2 x3 x4 h x5) (TL (S := Int32) x 55 (fun s => [(0, vR x.2.2.2 x0), (2, .int x2), (3, .int x3), (4, .int x4), (5, .int s)]) [] (fun s => h) (TL (S := Int32) x 41 (fun s => [(0, vR x.2.2.2 x0), (2, .int x2), (3, .int x3), (4, .int s)]) [] (fun s => h) (fun r => r = u))) := by
          intro x5
          have hb118 : ∀ (x0 : Nat) (x2 : Int32) (x3 : Int32) (x4 : Int32) (x5 : Int32) (h : Hp), J x 118 [(0, vR x.2.2.2 x0), (2, .int x2), (3, .int x3), (4, .int x4), (5, .int x5)] [] h (mX12_turn_b118 x0 x2 x3 x4 x5 h) (TL (S := Int32) x 55 (fun s => [(0, vR x.2.2.2 x0), (2, .int x2), (3, .int x3), (4, .int x4), (5, .int s)]) [] (fun s => h) (TL (S := Int32) x 41 (fun s => [(0, vR x.2.2.2 x0), (2, .int x2), (3, .int x3), (4, .int s)]) [] (fun s => h) (fun r => r = u))) := by
            intro x0 x2 x3 x4 x5 h
            unfold mX12_turn_b118
            refine j_iinc (q := 121) (l2 := [(0, vR x.2.2.2 x0), (2, .int x2), (3, .int x3), (4, .int x4)]) hx (dc kX12_turn_1 2 rfl) 4 rfl (v := (1 : Int32)) (by decide) (hn 5 (by decide)) [0, 1, 2, 3] rfl ⟨⟨show (0 : Nat) ≠ 5 by decide, Or.inl (show (0 : Nat) + 1 ≠ 5 by decide)⟩, ⟨⟨show (2 : Nat) ≠ 5 by decide, Or.inl (show (2 : Nat) + 1 ≠ 5 by decide)⟩, ⟨⟨show (3 : Nat) ≠ 5 by decide, Or.inl (show (3 : Nat) + 1 ≠ 5 by decide)⟩, ⟨⟨show (4 : Nat) ≠ 5 by decide, Or.inr rfl⟩, trivial⟩⟩⟩⟩ rfl ?_
            refine j_goto (q := 55) hx (dc kX12_turn_1 3 rfl) (by decide) ?_
            exact j_back [1, 2, 3, 4, 0] (x5 + (1 : Int32)) rfl rfl
          unfold mX12_turn_l55f
          refine j_iload (q := 57) hx (dc kX12_turn_0 32 rfl) 4 rfl rfl ?_
          refine j_iconst (q := 58) (v := (2 : Int32)) hx (dc kX12_turn_0 33 rfl) (by decide) rfl ?_
          refine j_icmp_geS (q := 61) (tgt := 124) hx (dc kX12_turn_0 34 rfl) (by decide) rfl ?_ ?_
          · refine j_exit ?_
            exact j_sub [0, 1, 2, 3] rfl (hb124 x0 x2 x3 x4 h)
          · refine j_aload_n (q := 62) hx (dc kX12_turn_0 35 rfl) rfl 0 rfl rfl ?_
            refine j_iload (q := 64) hx (dc kX12_turn_0 36 rfl) 3 rfl rfl ?_
            refine w_cVIR (q := 67) (As := [.int x4]) (st := []) hx (dc kX12_turn_0 37 rfl) cf12 (by decide) rfl (cI _ my_X12_isKnown lm_X12_326 (by decide)) vs_X12_isKnown rfl (fun u hu => sX12_isKnown _ _ _ _ _ _ hu) (fun e => ite_ne (by unfold mX12_isKnown at e; exact e)) (Nat.zero_le _) rfl (fun v13 => ?_)
            refine j_if_neS (q := 70) (tgt := 124) hx (dc kX12_turn_0 38 rfl) (by decide) rfl ?_ ?_
            · refine j_exit ?_
              exact j_sub [0, 1, 2, 3] rfl (hb124 x0 x2 x3 x4 h)
            · refine j_iload (q := 72) hx (dc kX12_turn_0 39 rfl) 4 rfl rfl ?_
              refine j_iconst (q := 73) (v := (1 : Int32)) hx (dc kX12_turn_0 40 rfl) (by decide) rfl ?_
              refine j_iadd (q := 74) hx (dc kX12_turn_0 41 rfl) rfl ?_
              refine j_gs (a := 3) (q := 77) hx (dc kX12_turn_0 42 rfl) gs_X12_432 gz_3 rfl ?_
              refine j_iload (q := 79) hx (dc kX12_turn_0 43 rfl) 3 rfl rfl ?_
              refine j_ldI (q := 80) hx (dc kX12_turn_0 44 rfl) rfl (fun v15 => ?_)
              refine j_imul (q := 81) hx (dc kX12_turn_0 45 rfl) rfl ?_
              refine j_istore (q := 83) (i := 6) (l2 := [(0, vR x.2.2.2 x0), (2, .int x2), (3, .int x3), (4, .int x4), (5, .int x5)]) hx (dc kX12_turn_0 46 rfl) (hn 6 (by decide)) [0, 1, 2, 3, 4] rfl ⟨⟨show (0 : Nat) ≠ 6 by decide, Or.inl (show (0 : Nat) + 1 ≠ 6 by decide)⟩, ⟨⟨show (2 : Nat) ≠ 6 by decide, Or.inl (show (2 : Nat) + 1 ≠ 6 by decide)⟩, ⟨⟨show (3 : Nat) ≠ 6 by decide, Or.inl (show (3 : Nat) + 1 ≠ 6 by decide)⟩, ⟨⟨show (4 : Nat) ≠ 6 by decide, Or.inl (show (4 : Nat) + 1 ≠ 6 by decide)⟩, ⟨⟨show (5 : Nat) ≠ 6 by decide, Or.inr rfl⟩, trivial⟩⟩⟩⟩⟩ rfl ?_
              refine j_aload_n (q := 84) hx (dc kX12_turn_0 47 rfl) rfl 1 rfl rfl ?_
              refine w_gR (q := 87) hx (dc kX12_turn_0 48 rfl) ff_X12_33 lk_X12_67 rfl (fun v16 => ?_)
              refine j_iload (q := 89) hx (dc kX12_turn_0 49 rfl) 0 rfl rfl ?_
              refine j_ldI (q := 90) hx (dc kX12_turn_0 50 rfl) rfl (fun v17 => ?_)
              refine j_if_leS (q := 93) (tgt := 118) hx (dc kX12_turn_0 51 rfl) (by decide) rfl ?_ ?_
              · exact j_sub [1, 2, 3, 4, 5] rfl (hb118 x0 x2 x3 x4 x5 h)
              · refine j_aload_n (q := 94) hx (dc kX12_turn_0 52 rfl) rfl 1 rfl rfl ?_
                refine w_gR (q := 97) hx (dc kX12_turn_0 53 rfl) ff_X12_35 lk_X12_73 rfl (fun v18 => ?_)
                refine j_iload (q := 99) hx (dc kX12_turn_0 54 rfl) 0 rfl rfl ?_
                refine j_ldI (q := 100) hx (dc kX12_turn_0 55 rfl) rfl (fun v19 => ?_)
                refine j_iconst (q := 101) (v := (1 : Int32)) hx (dc kX12_turn_0 56 rfl) (by decide) rfl ?_
                refine j_iload_n (q := 102) hx (dc kX12_turn_0 57 rfl) rfl 2 rfl rfl ?_
                refine j_isub (q := 103) hx (dc kX12_turn_0 58 rfl) rfl ?_
                refine j_icmp_neS (q := 106) (tgt := 118) hx (dc kX12_turn_0 59 rfl) (by decide) rfl ?_ ?_
                · exact j_sub [1, 2, 3, 4, 5] rfl (hb118 x0 x2 x3 x4 x5 h)
                · refine j_exit ?_
                  refine j_exit ?_
                  refine j_iload_n (q := 107) hx (dc kX12_turn_0 60 rfl) rfl 3 rfl rfl ?_
                  refine j_if_neS (q := 110) (tgt := 115) hx (dc kX12_turn_0 61 rfl) (by decide) rfl ?_ ?_
                  · refine j_iload (q := 117) hx (dc kX12_turn_1 0 rfl) 5 rfl rfl ?_
                    exact r_iW hx hR (dc kX12_turn_1 1 rfl)
                  · refine j_iload (q := 112) hx (dc kX12_turn_0 62 rfl) 4 rfl rfl ?_
                    refine j_goto (q := 117) hx (dc kX12_turn_0 63 rfl) (by decide) ?_
                    exact r_iW hx hR (dc kX12_turn_1 1 rfl)
        exact j_loop (S := Int32) (lvf := fun s => [(0, vR x.2.2.2 x0), (2, .int x2), (3, .int x3), (4, .int x4), (5, .int s)]) (hpf := fun s => h) (f := (fun s : Int32 => mX12_turn_l55f x0 x2 x3 x4 h s)) (fun s => hB s) x5
      unfold mX12_turn_l41f
      refine j_iload (q := 43) hx (dc kX12_turn_0 24 rfl) 3 rfl rfl ?_
      refine j_aload_n (q := 44) hx (dc kX12_turn_0 25 rfl) rfl 0 rfl rfl ?_
      refine w_gR (q := 47) hx (dc kX12_turn_0 26 rfl) ff_X12_0 lk_X12_7 rfl (fun v11 => ?_)
      refine j_iconst (q := 48) (v := (1 : Int32)) hx (dc kX12_turn_0 27 rfl) (by decide) rfl ?_
      refine j_ldI (q := 49) hx (dc kX12_turn_0 28 rfl) rfl (fun v12 => ?_)
      refine j_icmp_geS (q := 52) (tgt := 130) hx (dc kX12_turn_0 29 rfl) (by decide) rfl ?_ ?_
      · refine j_exit ?_
        refine j_bipush (q := 132) (v := (-2 : Int32)) hx (dc kX12_turn_1 6 rfl) (by decide) rfl ?_
        exact r_iW hx hR (dc kX12_turn_1 7 rfl)
      · refine j_iconst (q := 53) (v := (0 : Int32)) hx (dc kX12_turn_0 30 rfl) (by decide) rfl ?_
        refine j_istore (q := 55) (i := 5) (l2 := [(0, vR x.2.2.2 x0), (2, .int x2), (3, .int x3), (4, .int x4)]) hx (dc kX12_turn_0 31 rfl) (hn 5 (by decide)) [0, 1, 2, 3] rfl ⟨⟨show (0 : Nat) ≠ 5 by decide, Or.inl (show (0 : Nat) + 1 ≠ 5 by decide)⟩, ⟨⟨show (2 : Nat) ≠ 5 by decide, Or.inl (show (2 : Nat) + 1 ≠ 5 by decide)⟩, ⟨⟨show (3 : Nat) ≠ 5 by decide, Or.inl (show (3 : Nat) + 1 ≠ 5 by decide)⟩, ⟨⟨show (4 : Nat) ≠ 5 by decide, Or.inr rfl⟩, trivial⟩⟩⟩⟩ rfl ?_
        exact j_sub [1, 2, 3, 4, 0] rfl (hb55 x0 x2 x3 x4 (0 : Int32) h)
    exact j_loop (S := Int32) (lvf := fun s => [(0, vR x.2.2.2 x0), (2, .int x2), (3, .int x3), (4, .int s)]) (hpf := fun s => h) (f := (fun s : Int32 => mX12_turn_l41f x0 x2 x3 h s)) (fun s => hB s) x4
  unfold mX12_turn
  refine J.ckd fun hck => ?_
  refine j_aload_n (q := 1) hx (dc kX12_turn_0 0 rfl) rfl 0 rfl rfl ?_
  refine j_iload_n (q := 2) hx (dc kX12_turn_0 1 rfl) rfl 1 rfl rfl ?_
  refine w_cVIR (q := 5) (As := [.int x1]) (st := []) hx (dc kX12_turn_0 2 rfl) cf12 (by decide) rfl (cI _ my_X12_isCount lm_X12_380 (by decide)) vs_X12_isCount rfl (fun u hu => sX12_isCount _ _ _ _ _ _ hu) (fun e => ite_ne (by unfold mX12_isCount at e; exact e)) (Nat.zero_le _) rfl (fun v1 => ?_)
  refine j_if_eq (q := 8) (tgt := 26) hx (dc kX12_turn_0 3 rfl) (by decide) Iff.rfl rfl ?_ ?_
  · refine j_iconst (q := 27) (v := (-1 : Int32)) hx (dc kX12_turn_0 14 rfl) (by decide) rfl ?_
    exact r_iW hx hR (dc kX12_turn_0 15 rfl)
  · refine j_iload_n (q := 9) hx (dc kX12_turn_0 4 rfl) rfl 2 rfl rfl ?_
    refine j_iconst (q := 10) (v := (0 : Int32)) hx (dc kX12_turn_0 5 rfl) (by decide) rfl ?_
    refine j_iconst (q := 11) (v := (1 : Int32)) hx (dc kX12_turn_0 6 rfl) (by decide) rfl ?_
    refine w_cSIR (q := 14) (As := [.int x2, .int (0 : Int32), .int (1 : Int32)]) (st := []) hx (dc kX12_turn_0 7 rfl) (cI _ my_X12_in lm_X12_85 (by decide)) st_X12_in rfl (fun u hu => sX12_in _ _ _ _ _ _ _ hu) (Nat.zero_le _) rfl (fun v3 => ?_)
    refine j_if_eq (q := 17) (tgt := 26) hx (dc kX12_turn_0 8 rfl) (by decide) Iff.rfl rfl ?_ ?_
    · refine j_iconst (q := 27) (v := (-1 : Int32)) hx (dc kX12_turn_0 14 rfl) (by decide) rfl ?_
      exact r_iW hx hR (dc kX12_turn_0 15 rfl)
    · refine j_iload_n (q := 18) hx (dc kX12_turn_0 9 rfl) rfl 3 rfl rfl ?_
      refine j_iconst (q := 19) (v := (0 : Int32)) hx (dc kX12_turn_0 10 rfl) (by decide) rfl ?_
      refine j_iconst (q := 20) (v := (1 : Int32)) hx (dc kX12_turn_0 11 rfl) (by decide) rfl ?_
      refine w_cSIR (q := 23) (As := [.int x3, .int (0 : Int32), .int (1 : Int32)]) (st := []) hx (dc kX12_turn_0 12 rfl) (cI _ my_X12_in lm_X12_85 (by decide)) st_X12_in rfl (fun u hu => sX12_in _ _ _ _ _ _ _ hu) (Nat.zero_le _) rfl (fun v5 => ?_)
      refine j_if_neS (q := 26) (tgt := 28) hx (dc kX12_turn_0 13 rfl) (by decide) rfl ?_ ?_
      · refine j_aload_n (q := 29) hx (dc kX12_turn_0 16 rfl) rfl 0 rfl rfl ?_
        refine j_iload_n (q := 30) hx (dc kX12_turn_0 17 rfl) rfl 1 rfl rfl ?_
        refine w_cVVW (q := 33) (As := [.int x1]) (st := []) hx (dc kX12_turn_0 18 rfl) cf12 (by decide) rfl (cI _ my_X12_laysWays lm_X12_441 (by decide)) vs_X12_laysWays rfl (fun u hu => sX12_laysWays _ _ _ _ _ _ hu) (fun e => ite_ne (by unfold mX12_laysWays at e; exact e)) (Nat.zero_le _) rfl (fun h8 => ?_)
        refine j_aload_n (q := 34) hx (dc kX12_turn_0 19 rfl) rfl 0 rfl rfl ?_
        refine j_iload_n (q := 35) hx (dc kX12_turn_0 20 rfl) rfl 2 rfl rfl ?_
        refine w_cVVW (q := 38) (As := [.int x2]) (st := []) hx (dc kX12_turn_0 21 rfl) cf12 (by decide) rfl (cI _ my_X12_laysDuel lm_X12_453 (by decide)) vs_X12_laysDuel rfl (fun u hu => sX12_laysDuel _ _ _ _ _ _ hu) (fun e => ite_ne (by unfold mX12_laysDuel at e; exact e)) (Nat.zero_le _) rfl (fun h10 => ?_)
        refine j_iconst (q := 39) (v := (0 : Int32)) hx (dc kX12_turn_0 22 rfl) (by decide) rfl ?_
        refine j_istore (q := 41) (i := 4) (l2 := [(0, vR x.2.2.2 x0), (2, .int x2), (3, .int x3)]) hx (dc kX12_turn_0 23 rfl) (hn 4 (by decide)) [0, 2, 3] rfl ⟨⟨show (0 : Nat) ≠ 4 by decide, Or.inl (show (0 : Nat) + 1 ≠ 4 by decide)⟩, ⟨⟨show (2 : Nat) ≠ 4 by decide, Or.inl (show (2 : Nat) + 1 ≠ 4 by decide)⟩, ⟨⟨show (3 : Nat) ≠ 4 by decide, Or.inr rfl⟩, trivial⟩⟩⟩ rfl ?_
        exact j_sub [1, 2, 3, 0] rfl (hb41 x0 x2 x3 (0 : Int32) h10)
      · refine j_iconst (q := 27) (v := (-1 : Int32)) hx (dc kX12_turn_0 14 rfl) (by decide) rfl ?_
        exact r_iW hx hR (dc kX12_turn_0 15 rfl)

set_option maxHeartbeats 4000000 in
set_option maxRecDepth 100000 in
theorem sX12_isProved (l : Launch) (w : Wd) (x0 : Nat) (x1 : Int32) (x2 : Int32) (h : Hp) (u : Int32) (hK : mX12_isProved x0 x1 x2 h = some u) : M1 l w mi_X12_isProved 1 [vR w x0, .int x1, .int x2] h h (some (.int u)) := by
  refine M1.of (own := RX12) (T := fun _ r => r = u) hK (by decide +kernel) rfl (by first | (simp only [lg_lenR, lg_lenI, lg_lenL, lg_len0]; decide) | decide) (fun x hx hnl hhf hl hw hret hnm hQ h0e => ⟨?_, rfl⟩)
  subst hw
  subst hl
  have hR : Rt x h h (some (.int u)) ((some .boolean)) := ⟨h0e, hhf, hret, hQ⟩
  have hn : ∀ i, i < 3 → i < x.2.2.1.1.1 := fun i hi => by rw [hnl]; exact hi
  have e0 : lv_args 0 [vR x.2.2.2 x0, .int x1, .int x2] = [(0, vR x.2.2.2 x0), (1, .int x1), (2, .int x2)] := by simp only [lv_argsR, lv_argsI, lv_argsL, lv_args0]
  rw [e0]
  unfold mX12_isProved
  refine J.ckd fun hck => ?_
  refine j_iload_n (q := 1) hx (dc kX12_isProved_0 0 rfl) rfl 2 rfl rfl ?_
  refine j_if_eq (q := 4) (tgt := 27) hx (dc kX12_isProved_0 1 rfl) (by decide) Iff.rfl rfl ?_ ?_
  · refine j_aload_n (q := 28) hx (dc kX12_isProved_0 15 rfl) rfl 0 rfl rfl ?_
    refine w_gR (q := 31) hx (dc kX12_isProved_0 16 rfl) ff_X12_34 lk_X12_70 rfl (fun v1 => ?_)
    refine j_iload_n (q := 32) hx (dc kX12_isProved_0 17 rfl) rfl 1 rfl rfl ?_
    refine j_ldI (q := 33) hx (dc kX12_isProved_0 18 rfl) rfl (fun v2 => ?_)
    refine j_if_neS (q := 36) (tgt := 40) hx (dc kX12_isProved_0 19 rfl) (by decide) rfl ?_ ?_
    · refine j_iconst (q := 41) (v := (0 : Int32)) hx (dc kX12_isProved_0 22 rfl) (by decide) rfl ?_
      exact r_cR hx (Or.inl rfl) hR (dc kX12_isProved_0 23 rfl)
    · refine j_iconst (q := 37) (v := (1 : Int32)) hx (dc kX12_isProved_0 20 rfl) (by decide) rfl ?_
      refine j_goto (q := 41) hx (dc kX12_isProved_0 21 rfl) (by decide) ?_
      exact r_cR hx (Or.inr rfl) hR (dc kX12_isProved_0 23 rfl)
  · refine j_aload_n (q := 5) hx (dc kX12_isProved_0 2 rfl) rfl 0 rfl rfl ?_
    refine w_gR (q := 8) hx (dc kX12_isProved_0 3 rfl) ff_X12_34 lk_X12_70 rfl (fun v3 => ?_)
    refine j_iload_n (q := 9) hx (dc kX12_isProved_0 4 rfl) rfl 1 rfl rfl ?_
    refine j_ldI (q := 10) hx (dc kX12_isProved_0 5 rfl) rfl (fun v4 => ?_)
    refine j_aload_n (q := 11) hx (dc kX12_isProved_0 6 rfl) rfl 0 rfl rfl ?_
    refine w_gR (q := 14) hx (dc kX12_isProved_0 7 rfl) ff_X12_33 lk_X12_67 rfl (fun v5 => ?_)
    refine j_iload_n (q := 15) hx (dc kX12_isProved_0 8 rfl) rfl 1 rfl rfl ?_
    refine j_ldI (q := 16) hx (dc kX12_isProved_0 9 rfl) rfl (fun v6 => ?_)
    refine j_icmp_neS (q := 19) (tgt := 23) hx (dc kX12_isProved_0 10 rfl) (by decide) rfl ?_ ?_
    · refine j_iconst (q := 24) (v := (0 : Int32)) hx (dc kX12_isProved_0 13 rfl) (by decide) rfl ?_
      refine j_goto (q := 41) hx (dc kX12_isProved_0 14 rfl) (by decide) ?_
      exact r_cR hx (Or.inl rfl) hR (dc kX12_isProved_0 23 rfl)
    · refine j_iconst (q := 20) (v := (1 : Int32)) hx (dc kX12_isProved_0 11 rfl) (by decide) rfl ?_
      refine j_goto (q := 41) hx (dc kX12_isProved_0 12 rfl) (by decide) ?_
      exact r_cR hx (Or.inr rfl) hR (dc kX12_isProved_0 23 rfl)

set_option maxHeartbeats 4000000 in
set_option maxRecDepth 100000 in
theorem sX12_isProof (l : Launch) (w : Wd) (x0 : Nat) (x1 : Int32) (x2 : Int32) (x3 : Int32) (h : Hp) (u : Int32) (hK : mX12_isProof x0 x1 x2 x3 h = some u) : M1 l w mi_X12_isProof 3 [vR w x0, .int x1, .int x2, .int x3] h h (some (.int u)) := by
  refine M1.of (own := RX12) (T := fun _ r => r = u) hK (by decide +kernel) rfl (by first | (simp only [lg_lenR, lg_lenI, lg_lenL, lg_len0]; decide) | decide) (fun x hx hnl hhf hl hw hret hnm hQ h0e => ⟨?_, rfl⟩)
  subst hw
  subst hl
  have hR : Rt x h h (some (.int u)) ((some .boolean)) := ⟨h0e, hhf, hret, hQ⟩
  have hn : ∀ i, i < 6 → i < x.2.2.1.1.1 := fun i hi => by rw [hnl]; exact hi
  have e0 : lv_args 0 [vR x.2.2.2 x0, .int x1, .int x2, .int x3] = [(0, vR x.2.2.2 x0), (1, .int x1), (2, .int x2), (3, .int x3)] := by simp only [lv_argsR, lv_argsI, lv_argsL, lv_args0]
  rw [e0]
  have hb32 : ∀ (x0 : Nat) (x1 : Int32) (x2 : Int32) (x3 : Int32) (x5 : Int32), J x 32 [(0, vR x.2.2.2 x0), (1, .int x1), (2, .int x2), (3, .int x3), (5, .int x5)] [] h (mX12_isProof_l32 x0 x1 x2 x3 x5 h) (fun r => r = u) := by
    intro x0 x1 x2 x3 x5
    have hB : ∀ (x5 : Int32), J x 32 [(0, vR x.2.2.2 x0), (1, .int x1), (2, .int x2), (3, .int x3), (5, .int x5)] [] h (mX12_isProof_l32f x0 x1 x2 x3 h x5) (TL (S := Int32) x 32 (fun s => [(0, vR x.2.2.2 x0), (1, .int x1), (2, .int x2), (3, .int x3), (5, .int s)]) [] (fun s => h) (fun r => r = u)) := by
      intro x5
      have hb81 : ∀ (x0 : Nat) (x1 : Int32) (x2 : Int32) (x3 : Int32) (x5 : Int32), J x 81 [(0, vR x.2.2.2 x0), (1, .int x1), (2, .int x2), (3, .int x3), (5, .int x5)] [] h (mX12_isProof_b81 x0 x1 x2 x3 x5 h) (TL (S := Int32) x 32 (fun s => [(0, vR x.2.2.2 x0), (1, .int x1), (2, .int x2), (3, .int x3), (5, .int s)]) [] (fun s => h) (fun r => r = u)) := by
        intro x0 x1 x2 x3 x5
        unfold mX12_isProof_b81
        refine j_iinc (q := 84) (l2 := [(0, vR x.2.2.2 x0), (1, .int x1), (2, .int x2), (3, .int x3)]) hx (dc kX12_isProof_0 49 rfl) 4 rfl (v := (1 : Int32)) (by decide) (hn 5 (by decide)) [0, 1, 2, 3] rfl ⟨⟨show (0 : Nat) ≠ 5 by decide, Or.inl (show (0 : Nat) + 1 ≠ 5 by decide)⟩, ⟨⟨show (1 : Nat) ≠ 5 by decide, Or.inl (show (1 : Nat) + 1 ≠ 5 by decide)⟩, ⟨⟨show (2 : Nat) ≠ 5 by decide, Or.inl (show (2 : Nat) + 1 ≠ 5 by decide)⟩, ⟨⟨show (3 : Nat) ≠ 5 by decide, Or.inl (show (3 : Nat) + 1 ≠ 5 by decide)⟩, trivial⟩⟩⟩⟩ rfl ?_
        refine j_goto (q := 32) hx (dc kX12_isProof_0 50 rfl) (by decide) ?_
        exact j_back [1, 2, 3, 4, 0] (x5 + (1 : Int32)) rfl rfl
      unfold mX12_isProof_l32f
      refine j_iload (q := 34) hx (dc kX12_isProof_0 18 rfl) 4 rfl rfl ?_
      refine j_aload_n (q := 35) hx (dc kX12_isProof_0 19 rfl) rfl 0 rfl rfl ?_
      refine w_gR (q := 38) hx (dc kX12_isProof_0 20 rfl) ff_X12_0 lk_X12_7 rfl (fun v7 => ?_)
      refine j_iconst (q := 39) (v := (1 : Int32)) hx (dc kX12_isProof_0 21 rfl) (by decide) rfl ?_
      refine j_ldI (q := 40) hx (dc kX12_isProof_0 22 rfl) rfl (fun v8 => ?_)
      refine j_icmp_geS (q := 43) (tgt := 87) hx (dc kX12_isProof_0 23 rfl) (by decide) rfl ?_ ?_
      · refine j_exit ?_
        refine j_iconst (q := 88) (v := (1 : Int32)) hx (dc kX12_isProof_0 51 rfl) (by decide) rfl ?_
        exact r_cR hx (Or.inr rfl) hR (dc kX12_isProof_0 52 rfl)
      · refine j_iload_n (q := 44) hx (dc kX12_isProof_0 24 rfl) rfl 1 rfl rfl ?_
        refine j_iload (q := 46) hx (dc kX12_isProof_0 25 rfl) 4 rfl rfl ?_
        refine w_cSIR (q := 49) (As := [.int x1, .int x5]) (st := []) hx (dc kX12_isProof_0 26 rfl) (cI _ my_X12_has lm_X12_239 (by decide)) st_X12_has rfl (fun u hu => sX12_has _ _ _ _ _ _ hu) (Nat.zero_le _) rfl (fun v9 => ?_)
        refine j_if_eq (q := 52) (tgt := 81) hx (dc kX12_isProof_0 27 rfl) (by decide) Iff.rfl rfl ?_ ?_
        · exact hb81 x0 x1 x2 x3 x5
        · refine j_aload_n (q := 53) hx (dc kX12_isProof_0 28 rfl) rfl 0 rfl rfl ?_
          refine j_iload_n (q := 54) hx (dc kX12_isProof_0 29 rfl) rfl 1 rfl rfl ?_
          refine j_iconst (q := 55) (v := (1 : Int32)) hx (dc kX12_isProof_0 30 rfl) (by decide) rfl ?_
          refine j_iload (q := 57) hx (dc kX12_isProof_0 31 rfl) 4 rfl rfl ?_
          refine j_ishl (q := 58) hx (dc kX12_isProof_0 32 rfl) rfl ?_
          refine j_iconst (q := 59) (v := (-1 : Int32)) hx (dc kX12_isProof_0 33 rfl) (by decide) rfl ?_
          refine j_ixor (q := 60) hx (dc kX12_isProof_0 34 rfl) rfl ?_
          refine j_iand (q := 61) hx (dc kX12_isProof_0 35 rfl) rfl ?_
          refine j_iload_n (q := 62) hx (dc kX12_isProof_0 36 rfl) rfl 2 rfl rfl ?_
          refine j_iconst (q := 63) (v := (1 : Int32)) hx (dc kX12_isProof_0 37 rfl) (by decide) rfl ?_
          refine j_iload (q := 65) hx (dc kX12_isProof_0 38 rfl) 4 rfl rfl ?_
          refine j_ishl (q := 66) hx (dc kX12_isProof_0 39 rfl) rfl ?_
          refine j_iconst (q := 67) (v := (-1 : Int32)) hx (dc kX12_isProof_0 40 rfl) (by decide) rfl ?_
          refine j_ixor (q := 68) hx (dc kX12_isProof_0 41 rfl) rfl ?_
          refine j_iand (q := 69) hx (dc kX12_isProof_0 42 rfl) rfl ?_
          refine w_cSIR (q := 72) (As := [.int (x1 &&& (((1 : Int32) <<< (x5 &&& 31)) ^^^ (-1 : Int32))), .int (x2 &&& (((1 : Int32) <<< (x5 &&& 31)) ^^^ (-1 : Int32)))]) (st := [vR x.2.2.2 x0]) hx (dc kX12_isProof_0 43 rfl) (cI _ my_X12_wayOf lm_X12_456 (by decide)) st_X12_wayOf rfl (fun u hu => sX12_wayOf _ _ _ _ _ _ hu) (sum_le (sum_R sum_nil) (by decide)) rfl (fun v11 => ?_)
          refine j_iload_n (q := 73) hx (dc kX12_isProof_0 44 rfl) rfl 3 rfl rfl ?_
          refine w_cVIR (q := 76) (As := [.int v11, .int x3]) (st := []) hx (dc kX12_isProof_0 45 rfl) cf12 (by decide) rfl (cI _ my_X12_isProved lm_X12_459 (by decide)) vs_X12_isProved rfl (fun u hu => sX12_isProved _ _ _ _ _ _ _ hu) (fun e => ite_ne (by unfold mX12_isProved at e; exact e)) (Nat.zero_le _) rfl (fun v13 => ?_)
          refine j_if_eq (q := 79) (tgt := 81) hx (dc kX12_isProof_0 46 rfl) (by decide) Iff.rfl rfl ?_ ?_
          · exact hb81 x0 x1 x2 x3 x5
          · refine j_exit ?_
            refine j_iconst (q := 80) (v := (0 : Int32)) hx (dc kX12_isProof_0 47 rfl) (by decide) rfl ?_
            exact r_cR hx (Or.inl rfl) hR (dc kX12_isProof_0 48 rfl)
    exact j_loop (S := Int32) (lvf := fun s => [(0, vR x.2.2.2 x0), (1, .int x1), (2, .int x2), (3, .int x3), (5, .int s)]) (hpf := fun s => h) (f := (fun s : Int32 => mX12_isProof_l32f x0 x1 x2 x3 h s)) (fun s => hB s) x5
  unfold mX12_isProof
  refine J.ckd fun hck => ?_
  refine j_iload_n (q := 1) hx (dc kX12_isProof_0 0 rfl) rfl 1 rfl rfl ?_
  refine j_iload_n (q := 2) hx (dc kX12_isProof_0 1 rfl) rfl 2 rfl rfl ?_
  refine w_cSIR (q := 5) (As := [.int x1, .int x2]) (st := []) hx (dc kX12_isProof_0 2 rfl) (cI _ my_X12_wayOf lm_X12_456 (by decide)) st_X12_wayOf rfl (fun u hu => sX12_wayOf _ _ _ _ _ _ hu) (Nat.zero_le _) rfl (fun v1 => ?_)
  refine j_istore (q := 7) (i := 4) (l2 := [(0, vR x.2.2.2 x0), (1, .int x1), (2, .int x2), (3, .int x3)]) hx (dc kX12_isProof_0 3 rfl) (hn 4 (by decide)) [0, 1, 2, 3] rfl ⟨⟨show (0 : Nat) ≠ 4 by decide, Or.inl (show (0 : Nat) + 1 ≠ 4 by decide)⟩, ⟨⟨show (1 : Nat) ≠ 4 by decide, Or.inl (show (1 : Nat) + 1 ≠ 4 by decide)⟩, ⟨⟨show (2 : Nat) ≠ 4 by decide, Or.inl (show (2 : Nat) + 1 ≠ 4 by decide)⟩, ⟨⟨show (3 : Nat) ≠ 4 by decide, Or.inr rfl⟩, trivial⟩⟩⟩⟩ rfl ?_
  refine j_aload_n (q := 8) hx (dc kX12_isProof_0 4 rfl) rfl 1 rfl rfl ?_
  refine w_gR (q := 11) hx (dc kX12_isProof_0 5 rfl) ff_X12_33 lk_X12_67 rfl (fun v3 => ?_)
  refine j_iload (q := 13) hx (dc kX12_isProof_0 6 rfl) 0 rfl rfl ?_
  refine j_ldI (q := 14) hx (dc kX12_isProof_0 7 rfl) rfl (fun v4 => ?_)
  refine j_if_eq (q := 17) (tgt := 27) hx (dc kX12_isProof_0 8 rfl) (by decide) Iff.rfl rfl ?_ ?_
  · refine j_iconst (q := 28) (v := (0 : Int32)) hx (dc kX12_isProof_0 14 rfl) (by decide) rfl ?_
    exact r_cR hx (Or.inl rfl) hR (dc kX12_isProof_0 15 rfl)
  · refine j_aload_n (q := 18) hx (dc kX12_isProof_0 9 rfl) rfl 1 rfl rfl ?_
    refine j_iload (q := 20) hx (dc kX12_isProof_0 10 rfl) 0 rfl rfl ?_
    refine j_iload_n (q := 21) hx (dc kX12_isProof_0 11 rfl) rfl 4 rfl rfl ?_
    refine w_cVIR (q := 24) (As := [.int v1, .int x3]) (st := []) hx (dc kX12_isProof_0 12 rfl) cf12 (by decide) rfl (cI _ my_X12_isProved lm_X12_459 (by decide)) vs_X12_isProved rfl (fun u hu => sX12_isProved _ _ _ _ _ _ _ hu) (fun e => ite_ne (by unfold mX12_isProved at e; exact e)) (Nat.zero_le _) rfl (fun v5 => ?_)
    refine j_if_neS (q := 27) (tgt := 29) hx (dc kX12_isProof_0 13 rfl) (by decide) rfl ?_ ?_
    · refine j_iconst (q := 30) (v := (0 : Int32)) hx (dc kX12_isProof_0 16 rfl) (by decide) rfl ?_
      refine j_istore (q := 32) (i := 5) (l2 := [(0, vR x.2.2.2 x0), (1, .int x1), (2, .int x2), (3, .int x3)]) hx (dc kX12_isProof_0 17 rfl) (hn 5 (by decide)) [1, 2, 3, 4] rfl ⟨⟨show (0 : Nat) ≠ 5 by decide, Or.inl (show (0 : Nat) + 1 ≠ 5 by decide)⟩, ⟨⟨show (1 : Nat) ≠ 5 by decide, Or.inl (show (1 : Nat) + 1 ≠ 5 by decide)⟩, ⟨⟨show (2 : Nat) ≠ 5 by decide, Or.inl (show (2 : Nat) + 1 ≠ 5 by decide)⟩, ⟨⟨show (3 : Nat) ≠ 5 by decide, Or.inl (show (3 : Nat) + 1 ≠ 5 by decide)⟩, trivial⟩⟩⟩⟩ rfl ?_
      exact j_sub [1, 2, 3, 4, 0] rfl (hb32 x0 x1 x2 x3 (0 : Int32))
    · refine j_iconst (q := 28) (v := (0 : Int32)) hx (dc kX12_isProof_0 14 rfl) (by decide) rfl ?_
      exact r_cR hx (Or.inl rfl) hR (dc kX12_isProof_0 15 rfl)

set_option maxHeartbeats 4000000 in
set_option maxRecDepth 100000 in
theorem sX12_findsProofs (l : Launch) (w : Wd) (x0 : Nat) (x1 : Int32) (x2 : Int32) (x3 : Int32) (h : Hp) (u : (Int32 × Hp)) (hK : mX12_findsProofs x0 x1 x2 x3 h = some u) : M1 l w mi_X12_findsProofs 4 [vR w x0, .int x1, .int x2, .int x3] h u.2 (some (.int u.1)) := by
  refine M1.of (own := RX12) (T := fun _ r => r = u) hK (by decide +kernel) rfl (by first | (simp only [lg_lenR, lg_lenI, lg_lenL, lg_len0]; decide) | decide) (fun x hx hnl hhf hl hw hret hnm hQ h0e => ⟨?_, rfl⟩)
  subst hw
  subst hl
  have hR : Rt x h u.2 (some (.int u.1)) ((some .int)) := ⟨h0e, hhf, hret, hQ⟩
  have hn : ∀ i, i < 8 → i < x.2.2.1.1.1 := fun i hi => by rw [hnl]; exact hi
  have e0 : lv_args 0 [vR x.2.2.2 x0, .int x1, .int x2, .int x3] = [(0, vR x.2.2.2 x0), (1, .int x1), (2, .int x2), (3, .int x3)] := by simp only [lv_argsR, lv_argsI, lv_argsL, lv_args0]
  rw [e0]
  have hb11 : ∀ (x0 : Nat) (x2 : Int32) (x3 : Int32) (x4 : Int32) (x5 : Int32) (h : Hp), J x 11 [(0, vR x.2.2.2 x0), (2, .int x2), (3, .int x3), (4, .int x4), (5, .int x5)] [] h (mX12_findsProofs_l11 x0 x2 x3 x4 x5 h) (fun r => r = u) := by
    intro x0 x2 x3 x4 x5 h
    have hB : ∀ (x4 : Int32) (x5 : Int32) (h : Hp), J x 11 [(0, vR x.2.2.2 x0), (2, .int x2), (3, .int x3), (4, .int x4), (5, .int x5)] [] h (mX12_findsProofs_l11f x0 x2 x3 x4 x5 h) (TL (S := (Int32 × Int32 × Hp)) x 11 (fun s => [(0, vR x.2.2.2 x0), (2, .int x2), (3, .int x3), (4, .int s.1), (5, .int s.2.1)]) [] (fun s => s.2.2) (fun r => r = u)) := by
      intro x4 x5 h
      have hb25 : ∀ (x0 : Nat) (x2 : Int32) (x3 : Int32) (x4 : Int32) (x5 : Int32) (x6 : Int32) (h : Hp), J x 25 [(0, vR x.2.2.2 x0), (2, .int x2), (3, .int x3), (4, .int x4), (5, .int x5), (6, .int x6)] [] h (mX12_findsProofs_l25 x0 x2 x3 x4 x5 x6 h) (TL (S := (Int32 × Int32 × Hp)) x 11 (fun s => [(0, vR x.2.2.2 x0), (2, .int x2), (3, .int x3), (4, .int s.1), (5, .int s.2.1)]) [] (fun s => s.2.2) (fun r => r = u)) := by
        intro x0 x2 x3 x4 x5 x6 h
        have hB : ∀ (x4 : Int32) (x6 : Int32) (h : Hp), J x 25 [(0, vR x.2.2.2 x0), (2, .int x2), (3, .int x3), (4, .int x4), (5, .int x5), (6, .int x6)] [] h (mX12_findsProofs_l25f x0 x2 x3 x5 x4 x6 h) (TL (S := (Int32 × Int32 × Hp)) x 25 (fun s => [(0, vR x.2.2.2 x0), (2, .int x2), (3, .int x3), (4, .int s.1), (5, .int x5), (6, .int s.2.1)]) [] (fun s => s.2.2) (TL (S := (Int32 × Int32 × Hp)) x 11 (fun s => [(0, vR x.2.2.2 x0), (2, .int x2), (3, .int x3), (4, .int s.1), (5, .int s.2.1)]) [] (fun s => s.2.2) (fun r => r = u))) := by
          intro x4 x6 h
          have hb123 : ∀ (x0 : Nat) (x2 : Int32) (x3 : Int32) (x4 : Int32) (x5 : Int32) (x6 : Int32) (h : Hp), J x 123 [(0, vR x.2.2.2 x0), (2, .int x2), (3, .int x3), (4, .int x4), (5, .int x5), (6, .int x6)] [] h (mX12_findsProofs_b123 x0 x2 x3 x4 x5 x6 h) (TL (S := (Int32 × Int32 × Hp)) x 25 (fun s => [(0, vR x.2.2.2 x0), (2, .int x2), (3, .int x3), (4, .int s.1), (5, .int x5), (6, .int s.2.1)]) [] (fun s => s.2.2) (TL (S := (Int32 × Int32 × Hp)) x 11 (fun s => [(0, vR x.2.2.2 x0), (2, .int x2), (3, .int x3), (4, .int s.1), (5, .int s.2.1)]) [] (fun s => s.2.2) (fun r => r = u))) := by
            intro x0 x2 x3 x4 x5 x6 h
            unfold mX12_findsProofs_b123
            refine j_iinc (q := 126) (l2 := [(0, vR x.2.2.2 x0), (2, .int x2), (3, .int x3), (4, .int x4), (5, .int x5)]) hx (dc kX12_findsProofs_0 63 rfl) 5 rfl (v := (1 : Int32)) (by decide) (hn 6 (by decide)) [0, 1, 2, 3, 4] rfl ⟨⟨show (0 : Nat) ≠ 6 by decide, Or.inl (show (0 : Nat) + 1 ≠ 6 by decide)⟩, ⟨⟨show (2 : Nat) ≠ 6 by decide, Or.inl (show (2 : Nat) + 1 ≠ 6 by decide)⟩, ⟨⟨show (3 : Nat) ≠ 6 by decide, Or.inl (show (3 : Nat) + 1 ≠ 6 by decide)⟩, ⟨⟨show (4 : Nat) ≠ 6 by decide, Or.inl (show (4 : Nat) + 1 ≠ 6 by decide)⟩, ⟨⟨show (5 : Nat) ≠ 6 by decide, Or.inr rfl⟩, trivial⟩⟩⟩⟩⟩ rfl ?_
            refine j_goto (q := 25) hx (dc kX12_findsProofs_1 0 rfl) (by decide) ?_
            exact j_back [1, 2, 3, 4, 5, 0] (x4, (x6 + (1 : Int32)), h) rfl rfl
          have hb64 : ∀ (x0 : Nat) (x2 : Int32) (x3 : Int32) (x4 : Int32) (x5 : Int32) (x6 : Int32) (x7 : Int32) (h : Hp), J x 64 [(0, vR x.2.2.2 x0), (2, .int x2), (3, .int x3), (4, .int x4), (5, .int x5), (6, .int x6), (7, .int x7)] [] h (mX12_findsProofs_l64 x0 x2 x3 x4 x5 x6 x7 h) (TL (S := (Int32 × Int32 × Hp)) x 25 (fun s => [(0, vR x.2.2.2 x0), (2, .int x2), (3, .int x3), (4, .int s.1), (5, .int x5), (6, .int s.2.1)]) [] (fun s => s.2.2) (TL (S := (Int32 × Int32 × Hp)) x 11 (fun s => [(0, vR x.2.2.2 x0), (2, .int x2), (3, .int x3), (4, .int s.1), (5, .int s.2.1)]) [] (fun s => s.2.2) (fun r => r = u))) := by
            intro x0 x2 x3 x4 x5 x6 x7 h
            have hB : ∀ (x4 : Int32) (x7 : Int32) (h : Hp), J x 64 [(0, vR x.2.2.2 x0), (2, .int x2), (3, .int x3), (4, .int x4), (5, .int x5), (6, .int x6), (7, .int x7)] [] h (mX12_findsProofs_l64f x0 x2 x3 x5 x6 x4 x7 h) (TL (S := (Int32 × Int32 × Hp)) x 64 (fun s => [(0, vR x.2.2.2 x0), (2, .int x2), (3, .int x3), (4, .int s.1), (5, .int x5), (6, .int x6), (7, .int s.2.1)]) [] (fun s => s.2.2) (TL (S := (Int32 × Int32 × Hp)) x 25 (fun s => [(0, vR x.2.2.2 x0), (2, .int x2), (3, .int x3), (4, .int s.1), (5, .int x5), (6, .int s.2.1)]) [] (fun s => s.2.2) (TL (S := (Int32 × Int32 × Hp)) x 11 (fun s => [(0, vR x.2.2.2 x0), (2, .int x2), (3, .int x3), (4, .int s.1), (5, .int s.2.1)]) [] (fun s => s.2.2) (fun r => r = u)))) := by
              intro x4 x7 h
              have hb117 : ∀ (x0 : Nat) (x2 : Int32) (x3 : Int32) (x4 : Int32) (x5 : Int32) (x6 : Int32) (x7 : Int32) (h : Hp), J x 117 [(0, vR x.2.2.2 x0), (2, .int x2), (3, .int x3), (4, .int x4), (5, .int x5), (6, .int x6), (7, .int x7)] [] h (mX12_findsProofs_b117 x0 x2 x3 x4 x5 x6 x7 h) (TL (S := (Int32 × Int32 × Hp)) x 64 (fun s => [(0, vR x.2.2.2 x0), (2, .int x2), (3, .int x3), (4, .int s.1), (5, .int x5), (6, .int x6), (7, .int s.2.1)]) [] (fun s => s.2.2) (TL (S := (Int32 × Int32 × Hp)) x 25 (fun s => [(0, vR x.2.2.2 x0), (2, .int x2), (3, .int x3), (4, .int s.1), (5, .int x5), (6, .int s.2.1)]) [] (fun s => s.2.2) (TL (S := (Int32 × Int32 × Hp)) x 11 (fun s => [(0, vR x.2.2.2 x0), (2, .int x2), (3, .int x3), (4, .int s.1), (5, .int s.2.1)]) [] (fun s => s.2.2) (fun r => r = u)))) := by
                intro x0 x2 x3 x4 x5 x6 x7 h
                unfold mX12_findsProofs_b117
                refine j_iinc (q := 120) (l2 := [(0, vR x.2.2.2 x0), (2, .int x2), (3, .int x3), (4, .int x4), (5, .int x5), (6, .int x6)]) hx (dc kX12_findsProofs_0 61 rfl) 6 rfl (v := (1 : Int32)) (by decide) (hn 7 (by decide)) [0, 1, 2, 3, 4, 5] rfl ⟨⟨show (0 : Nat) ≠ 7 by decide, Or.inl (show (0 : Nat) + 1 ≠ 7 by decide)⟩, ⟨⟨show (2 : Nat) ≠ 7 by decide, Or.inl (show (2 : Nat) + 1 ≠ 7 by decide)⟩, ⟨⟨show (3 : Nat) ≠ 7 by decide, Or.inl (show (3 : Nat) + 1 ≠ 7 by decide)⟩, ⟨⟨show (4 : Nat) ≠ 7 by decide, Or.inl (show (4 : Nat) + 1 ≠ 7 by decide)⟩, ⟨⟨show (5 : Nat) ≠ 7 by decide, Or.inl (show (5 : Nat) + 1 ≠ 7 by decide)⟩, ⟨⟨show (6 : Nat) ≠ 7 by decide, Or.inr rfl⟩, trivial⟩⟩⟩⟩⟩⟩ rfl ?_
                refine j_goto (q := 64) hx (dc kX12_findsProofs_0 62 rfl) (by decide) ?_
                exact j_back [1, 2, 3, 4, 5, 6, 0] (x4, (x7 + (1 : Int32)), h) rfl rfl
              have hb114 : ∀ (x0 : Nat) (x2 : Int32) (x3 : Int32) (x4 : Int32) (x5 : Int32) (x6 : Int32) (x7 : Int32) (h : Hp), J x 114 [(0, vR x.2.2.2 x0), (2, .int x2), (3, .int x3), (4, .int x4), (5, .int x5), (6, .int x6), (7, .int x7)] [] h (mX12_findsProofs_b114 x0 x2 x3 x4 x5 x6 x7 h) (TL (S := (Int32 × Int32 × Hp)) x 64 (fun s => [(0, vR x.2.2.2 x0), (2, .int x2), (3, .int x3), (4, .int s.1), (5, .int x5), (6, .int x6), (7, .int s.2.1)]) [] (fun s => s.2.2) (TL (S := (Int32 × Int32 × Hp)) x 25 (fun s => [(0, vR x.2.2.2 x0), (2, .int x2), (3, .int x3), (4, .int s.1), (5, .int x5), (6, .int s.2.1)]) [] (fun s => s.2.2) (TL (S := (Int32 × Int32 × Hp)) x 11 (fun s => [(0, vR x.2.2.2 x0), (2, .int x2), (3, .int x3), (4, .int s.1), (5, .int s.2.1)]) [] (fun s => s.2.2) (fun r => r = u)))) := by
                intro x0 x2 x3 x4 x5 x6 x7 h
                unfold mX12_findsProofs_b114
                refine j_iinc (q := 117) (l2 := [(0, vR x.2.2.2 x0), (2, .int x2), (3, .int x3), (5, .int x5), (6, .int x6), (7, .int x7)]) hx (dc kX12_findsProofs_0 60 rfl) 3 rfl (v := (1 : Int32)) (by decide) (hn 4 (by decide)) [0, 1, 2, 4, 5, 6] rfl ⟨⟨show (0 : Nat) ≠ 4 by decide, Or.inl (show (0 : Nat) + 1 ≠ 4 by decide)⟩, ⟨⟨show (2 : Nat) ≠ 4 by decide, Or.inl (show (2 : Nat) + 1 ≠ 4 by decide)⟩, ⟨⟨show (3 : Nat) ≠ 4 by decide, Or.inr rfl⟩, ⟨⟨show (5 : Nat) ≠ 4 by decide, Or.inl (show (5 : Nat) + 1 ≠ 4 by decide)⟩, ⟨⟨show (6 : Nat) ≠ 4 by decide, Or.inl (show (6 : Nat) + 1 ≠ 4 by decide)⟩, ⟨⟨show (7 : Nat) ≠ 4 by decide, Or.inl (show (7 : Nat) + 1 ≠ 4 by decide)⟩, trivial⟩⟩⟩⟩⟩⟩ rfl ?_
                exact j_sub [1, 2, 3, 0, 4, 5, 6] rfl (hb117 x0 x2 x3 (x4 + (1 : Int32)) x5 x6 x7 h)
              unfold mX12_findsProofs_l64f
              refine j_iload (q := 66) hx (dc kX12_findsProofs_0 35 rfl) 6 rfl rfl ?_
              refine j_iload (q := 68) hx (dc kX12_findsProofs_0 36 rfl) 5 rfl rfl ?_
              refine j_icmp_gt (q := 71) (tgt := 123) hx (dc kX12_findsProofs_0 37 rfl) (by decide) Iff.rfl rfl ?_ ?_
              · refine j_exit ?_
                exact j_sub [0, 1, 2, 3, 4, 5] rfl (hb123 x0 x2 x3 x4 x5 x6 h)
              · refine j_iload (q := 73) hx (dc kX12_findsProofs_0 38 rfl) 6 rfl rfl ?_
                refine j_iload (q := 75) hx (dc kX12_findsProofs_0 39 rfl) 5 rfl rfl ?_
                refine j_iconst (q := 76) (v := (-1 : Int32)) hx (dc kX12_findsProofs_0 40 rfl) (by decide) rfl ?_
                refine j_ixor (q := 77) hx (dc kX12_findsProofs_0 41 rfl) rfl ?_
                refine j_iand (q := 78) hx (dc kX12_findsProofs_0 42 rfl) rfl ?_
                refine j_if_neS (q := 81) (tgt := 117) hx (dc kX12_findsProofs_0 43 rfl) (by decide) rfl ?_ ?_
                · exact hb117 x0 x2 x3 x4 x5 x6 x7 h
                · refine j_aload_n (q := 82) hx (dc kX12_findsProofs_0 44 rfl) rfl 0 rfl rfl ?_
                  refine j_iload (q := 84) hx (dc kX12_findsProofs_0 45 rfl) 5 rfl rfl ?_
                  refine j_iload (q := 86) hx (dc kX12_findsProofs_0 46 rfl) 6 rfl rfl ?_
                  refine j_iload_n (q := 87) hx (dc kX12_findsProofs_0 47 rfl) rfl 1 rfl rfl ?_
                  refine w_cVIR (q := 90) (As := [.int x6, .int x7, .int x2]) (st := []) hx (dc kX12_findsProofs_0 48 rfl) cf12 (by decide) rfl (cI _ my_X12_isProof lm_X12_463 (by decide)) vs_X12_isProof rfl (fun u hu => sX12_isProof _ _ _ _ _ _ _ _ hu) (fun e => ite_ne (by unfold mX12_isProof at e; exact e)) (Nat.zero_le _) rfl (fun v11 => ?_)
                  refine j_if_neS (q := 93) (tgt := 96) hx (dc kX12_findsProofs_0 49 rfl) (by decide) rfl ?_ ?_
                  · refine j_iload (q := 98) hx (dc kX12_findsProofs_0 51 rfl) 3 rfl rfl ?_
                    refine j_iload_n (q := 99) hx (dc kX12_findsProofs_0 52 rfl) rfl 2 rfl rfl ?_
                    refine j_icmp_neS (q := 102) (tgt := 114) hx (dc kX12_findsProofs_0 53 rfl) (by decide) rfl ?_ ?_
                    · exact hb114 x0 x2 x3 x4 x5 x6 x7 h
                    · refine j_aload_n (q := 103) hx (dc kX12_findsProofs_0 54 rfl) rfl 0 rfl rfl ?_
                      refine j_iload (q := 105) hx (dc kX12_findsProofs_0 55 rfl) 5 rfl rfl ?_
                      refine w_sI (q := 108) hx (dc kX12_findsProofs_0 56 rfl) ff_X12_31 rfl lk_X12_419 (Or.inl rfl) rfl (fun h13 => ?_)
                      refine j_aload_n (q := 109) hx (dc kX12_findsProofs_0 57 rfl) rfl 0 rfl rfl ?_
                      refine j_iload (q := 111) hx (dc kX12_findsProofs_0 58 rfl) 6 rfl rfl ?_
                      refine w_sI (q := 114) hx (dc kX12_findsProofs_0 59 rfl) ff_X12_32 rfl lk_X12_422 (Or.inl rfl) rfl (fun h14 => ?_)
                      exact hb114 x0 x2 x3 x4 x5 x6 x7 h14
                  · refine j_goto (q := 117) hx (dc kX12_findsProofs_0 50 rfl) (by decide) ?_
                    exact hb117 x0 x2 x3 x4 x5 x6 x7 h
            exact j_loop (S := (Int32 × Int32 × Hp)) (lvf := fun s => [(0, vR x.2.2.2 x0), (2, .int x2), (3, .int x3), (4, .int s.1), (5, .int x5), (6, .int x6), (7, .int s.2.1)]) (hpf := fun s => s.2.2) (f := (fun s : (Int32 × Int32 × Hp) => mX12_findsProofs_l64f x0 x2 x3 x5 x6 s.1 s.2.1 s.2.2)) (fun s => hB s.1 s.2.1 s.2.2) (x4, x7, h)
          unfold mX12_findsProofs_l25f
          refine j_iload (q := 27) hx (dc kX12_findsProofs_0 15 rfl) 5 rfl rfl ?_
          refine j_iconst (q := 28) (v := (1 : Int32)) hx (dc kX12_findsProofs_0 16 rfl) (by decide) rfl ?_
          refine j_aload_n (q := 29) hx (dc kX12_findsProofs_0 17 rfl) rfl 0 rfl rfl ?_
          refine w_gR (q := 32) hx (dc kX12_findsProofs_0 18 rfl) ff_X12_0 lk_X12_7 rfl (fun v5 => ?_)
          refine j_iconst (q := 33) (v := (1 : Int32)) hx (dc kX12_findsProofs_0 19 rfl) (by decide) rfl ?_
          refine j_ldI (q := 34) hx (dc kX12_findsProofs_0 20 rfl) rfl (fun v6 => ?_)
          refine j_ishl (q := 35) hx (dc kX12_findsProofs_0 21 rfl) rfl ?_
          refine j_icmp_geS (q := 38) (tgt := 129) hx (dc kX12_findsProofs_0 22 rfl) (by decide) rfl ?_ ?_
          · refine j_exit ?_
            refine j_iinc (q := 132) (l2 := [(0, vR x.2.2.2 x0), (2, .int x2), (3, .int x3), (4, .int x4)]) hx (dc kX12_findsProofs_1 1 rfl) 4 rfl (v := (1 : Int32)) (by decide) (hn 5 (by decide)) [0, 1, 2, 3] rfl ⟨⟨show (0 : Nat) ≠ 5 by decide, Or.inl (show (0 : Nat) + 1 ≠ 5 by decide)⟩, ⟨⟨show (2 : Nat) ≠ 5 by decide, Or.inl (show (2 : Nat) + 1 ≠ 5 by decide)⟩, ⟨⟨show (3 : Nat) ≠ 5 by decide, Or.inl (show (3 : Nat) + 1 ≠ 5 by decide)⟩, ⟨⟨show (4 : Nat) ≠ 5 by decide, Or.inr rfl⟩, trivial⟩⟩⟩⟩ rfl ?_
            refine j_goto (q := 11) hx (dc kX12_findsProofs_1 2 rfl) (by decide) ?_
            exact j_back [1, 2, 3, 4, 0] (x4, (x5 + (1 : Int32)), h) rfl rfl
          · refine j_iload (q := 40) hx (dc kX12_findsProofs_0 23 rfl) 5 rfl rfl ?_
            refine w_cSIR (q := 43) (As := [.int x6]) (st := []) hx (dc kX12_findsProofs_0 24 rfl) (cI _ my_X12_bits lm_X12_315 (by decide)) st_X12_bits rfl (fun u hu => sX12_bits _ _ _ _ _ hu) (Nat.zero_le _) rfl (fun v7 => ?_)
            refine j_iload (q := 45) hx (dc kX12_findsProofs_0 25 rfl) 4 rfl rfl ?_
            refine j_icmp_neS (q := 48) (tgt := 123) hx (dc kX12_findsProofs_0 26 rfl) (by decide) rfl ?_ ?_
            · exact hb123 x0 x2 x3 x4 x5 x6 h
            · refine j_iload (q := 50) hx (dc kX12_findsProofs_0 27 rfl) 5 rfl rfl ?_
              refine j_aload_n (q := 51) hx (dc kX12_findsProofs_0 28 rfl) rfl 0 rfl rfl ?_
              refine w_cVIR (q := 54) (As := []) (st := [.int x6]) hx (dc kX12_findsProofs_0 29 rfl) cf12 (by decide) rfl (cI _ my_X12_knownFacts lm_X12_329 (by decide)) vs_X12_knownFacts rfl (fun u hu => sX12_knownFacts _ _ _ _ _ hu) (fun e => ite_ne (by unfold mX12_knownFacts at e; exact e)) (sum_le (sum_I sum_nil) (by decide)) rfl (fun v9 => ?_)
              refine j_iand (q := 55) hx (dc kX12_findsProofs_0 30 rfl) rfl ?_
              refine j_if_eq (q := 58) (tgt := 61) hx (dc kX12_findsProofs_0 31 rfl) (by decide) Iff.rfl rfl ?_ ?_
              · refine j_iconst (q := 62) (v := (0 : Int32)) hx (dc kX12_findsProofs_0 33 rfl) (by decide) rfl ?_
                refine j_istore (q := 64) (i := 7) (l2 := [(0, vR x.2.2.2 x0), (2, .int x2), (3, .int x3), (4, .int x4), (5, .int x5), (6, .int x6)]) hx (dc kX12_findsProofs_0 34 rfl) (hn 7 (by decide)) [0, 1, 2, 3, 4, 5] rfl ⟨⟨show (0 : Nat) ≠ 7 by decide, Or.inl (show (0 : Nat) + 1 ≠ 7 by decide)⟩, ⟨⟨show (2 : Nat) ≠ 7 by decide, Or.inl (show (2 : Nat) + 1 ≠ 7 by decide)⟩, ⟨⟨show (3 : Nat) ≠ 7 by decide, Or.inl (show (3 : Nat) + 1 ≠ 7 by decide)⟩, ⟨⟨show (4 : Nat) ≠ 7 by decide, Or.inl (show (4 : Nat) + 1 ≠ 7 by decide)⟩, ⟨⟨show (5 : Nat) ≠ 7 by decide, Or.inl (show (5 : Nat) + 1 ≠ 7 by decide)⟩, ⟨⟨show (6 : Nat) ≠ 7 by decide, Or.inr rfl⟩, trivial⟩⟩⟩⟩⟩⟩ rfl ?_
                exact j_sub [1, 2, 3, 4, 5, 6, 0] rfl (hb64 x0 x2 x3 x4 x5 x6 (0 : Int32) h)
              · refine j_goto (q := 123) hx (dc kX12_findsProofs_0 32 rfl) (by decide) ?_
                exact hb123 x0 x2 x3 x4 x5 x6 h
        exact j_loop (S := (Int32 × Int32 × Hp)) (lvf := fun s => [(0, vR x.2.2.2 x0), (2, .int x2), (3, .int x3), (4, .int s.1), (5, .int x5), (6, .int s.2.1)]) (hpf := fun s => s.2.2) (f := (fun s : (Int32 × Int32 × Hp) => mX12_findsProofs_l25f x0 x2 x3 x5 s.1 s.2.1 s.2.2)) (fun s => hB s.1 s.2.1 s.2.2) (x4, x6, h)
      unfold mX12_findsProofs_l11f
      refine j_iload (q := 13) hx (dc kX12_findsProofs_0 7 rfl) 4 rfl rfl ?_
      refine j_aload_n (q := 14) hx (dc kX12_findsProofs_0 8 rfl) rfl 0 rfl rfl ?_
      refine w_gR (q := 17) hx (dc kX12_findsProofs_0 9 rfl) ff_X12_0 lk_X12_7 rfl (fun v3 => ?_)
      refine j_iconst (q := 18) (v := (1 : Int32)) hx (dc kX12_findsProofs_0 10 rfl) (by decide) rfl ?_
      refine j_ldI (q := 19) hx (dc kX12_findsProofs_0 11 rfl) rfl (fun v4 => ?_)
      refine j_icmp_gt (q := 22) (tgt := 135) hx (dc kX12_findsProofs_0 12 rfl) (by decide) Iff.rfl rfl ?_ ?_
      · refine j_exit ?_
        refine j_iload (q := 137) hx (dc kX12_findsProofs_1 3 rfl) 3 rfl rfl ?_
        exact r_iW hx hR (dc kX12_findsProofs_1 4 rfl)
      · refine j_iconst (q := 23) (v := (0 : Int32)) hx (dc kX12_findsProofs_0 13 rfl) (by decide) rfl ?_
        refine j_istore (q := 25) (i := 6) (l2 := [(0, vR x.2.2.2 x0), (2, .int x2), (3, .int x3), (4, .int x4), (5, .int x5)]) hx (dc kX12_findsProofs_0 14 rfl) (hn 6 (by decide)) [0, 1, 2, 3, 4] rfl ⟨⟨show (0 : Nat) ≠ 6 by decide, Or.inl (show (0 : Nat) + 1 ≠ 6 by decide)⟩, ⟨⟨show (2 : Nat) ≠ 6 by decide, Or.inl (show (2 : Nat) + 1 ≠ 6 by decide)⟩, ⟨⟨show (3 : Nat) ≠ 6 by decide, Or.inl (show (3 : Nat) + 1 ≠ 6 by decide)⟩, ⟨⟨show (4 : Nat) ≠ 6 by decide, Or.inl (show (4 : Nat) + 1 ≠ 6 by decide)⟩, ⟨⟨show (5 : Nat) ≠ 6 by decide, Or.inr rfl⟩, trivial⟩⟩⟩⟩⟩ rfl ?_
        exact j_sub [1, 2, 3, 4, 5, 0] rfl (hb25 x0 x2 x3 x4 x5 (0 : Int32) h)
    exact j_loop (S := (Int32 × Int32 × Hp)) (lvf := fun s => [(0, vR x.2.2.2 x0), (2, .int x2), (3, .int x3), (4, .int s.1), (5, .int s.2.1)]) (hpf := fun s => s.2.2) (f := (fun s : (Int32 × Int32 × Hp) => mX12_findsProofs_l11f x0 x2 x3 s.1 s.2.1 s.2.2)) (fun s => hB s.1 s.2.1 s.2.2) (x4, x5, h)
  unfold mX12_findsProofs
  refine J.ckd fun hck => ?_
  refine j_aload_n (q := 1) hx (dc kX12_findsProofs_0 0 rfl) rfl 0 rfl rfl ?_
  refine j_iload_n (q := 2) hx (dc kX12_findsProofs_0 1 rfl) rfl 1 rfl rfl ?_
  refine w_cVVW (q := 5) (As := [.int x1]) (st := []) hx (dc kX12_findsProofs_0 2 rfl) cf12 (by decide) rfl (cI _ my_X12_laysWays lm_X12_441 (by decide)) vs_X12_laysWays rfl (fun u hu => sX12_laysWays _ _ _ _ _ _ hu) (fun e => ite_ne (by unfold mX12_laysWays at e; exact e)) (Nat.zero_le _) rfl (fun h2 => ?_)
  refine j_iconst (q := 6) (v := (0 : Int32)) hx (dc kX12_findsProofs_0 3 rfl) (by decide) rfl ?_
  refine j_istore (q := 8) (i := 4) (l2 := [(0, vR x.2.2.2 x0), (2, .int x2), (3, .int x3)]) hx (dc kX12_findsProofs_0 4 rfl) (hn 4 (by decide)) [0, 2, 3] rfl ⟨⟨show (0 : Nat) ≠ 4 by decide, Or.inl (show (0 : Nat) + 1 ≠ 4 by decide)⟩, ⟨⟨show (2 : Nat) ≠ 4 by decide, Or.inl (show (2 : Nat) + 1 ≠ 4 by decide)⟩, ⟨⟨show (3 : Nat) ≠ 4 by decide, Or.inr rfl⟩, trivial⟩⟩⟩ rfl ?_
  refine j_iconst (q := 9) (v := (0 : Int32)) hx (dc kX12_findsProofs_0 5 rfl) (by decide) rfl ?_
  refine j_istore (q := 11) (i := 5) (l2 := [(4, .int (0 : Int32)), (0, vR x.2.2.2 x0), (2, .int x2), (3, .int x3)]) hx (dc kX12_findsProofs_0 6 rfl) (hn 5 (by decide)) [0, 1, 2, 3] rfl ⟨⟨show (4 : Nat) ≠ 5 by decide, Or.inr rfl⟩, ⟨⟨show (0 : Nat) ≠ 5 by decide, Or.inl (show (0 : Nat) + 1 ≠ 5 by decide)⟩, ⟨⟨show (2 : Nat) ≠ 5 by decide, Or.inl (show (2 : Nat) + 1 ≠ 5 by decide)⟩, ⟨⟨show (3 : Nat) ≠ 5 by decide, Or.inl (show (3 : Nat) + 1 ≠ 5 by decide)⟩, trivial⟩⟩⟩⟩ rfl ?_
  exact j_sub [2, 3, 4, 1, 0] rfl (hb11 x0 x2 x3 (0 : Int32) (0 : Int32) h2)

set_option maxHeartbeats 4000000 in
set_option maxRecDepth 100000 in
theorem sX12_proofs (l : Launch) (w : Wd) (x0 : Nat) (x1 : Int32) (x2 : Int32) (h : Hp) (u : (Int32 × Hp)) (hK : mX12_proofs x0 x1 x2 h = some u) : M1 l w mi_X12_proofs 5 [vR w x0, .int x1, .int x2] h u.2 (some (.int u.1)) := by
  refine M1.of (own := RX12) (T := fun _ r => r = u) hK (by decide +kernel) rfl (by first | (simp only [lg_lenR, lg_lenI, lg_lenL, lg_len0]; decide) | decide) (fun x hx hnl hhf hl hw hret hnm hQ h0e => ⟨?_, rfl⟩)
  subst hw
  subst hl
  have hR : Rt x h u.2 (some (.int u.1)) ((some .int)) := ⟨h0e, hhf, hret, hQ⟩
  have hn : ∀ i, i < 3 → i < x.2.2.1.1.1 := fun i hi => by rw [hnl]; exact hi
  have e0 : lv_args 0 [vR x.2.2.2 x0, .int x1, .int x2] = [(0, vR x.2.2.2 x0), (1, .int x1), (2, .int x2)] := by simp only [lv_argsR, lv_argsI, lv_argsL, lv_args0]
  rw [e0]
  unfold mX12_proofs
  refine J.ckd fun hck => ?_
  refine j_aload_n (q := 1) hx (dc kX12_proofs_0 0 rfl) rfl 0 rfl rfl ?_
  refine j_iload_n (q := 2) hx (dc kX12_proofs_0 1 rfl) rfl 1 rfl rfl ?_
  refine w_cVIR (q := 5) (As := [.int x1]) (st := []) hx (dc kX12_proofs_0 2 rfl) cf12 (by decide) rfl (cI _ my_X12_isCount lm_X12_380 (by decide)) vs_X12_isCount rfl (fun u hu => sX12_isCount _ _ _ _ _ _ hu) (fun e => ite_ne (by unfold mX12_isCount at e; exact e)) (Nat.zero_le _) rfl (fun v1 => ?_)
  refine j_if_eq (q := 8) (tgt := 18) hx (dc kX12_proofs_0 3 rfl) (by decide) Iff.rfl rfl ?_ ?_
  · refine j_iconst (q := 19) (v := (-1 : Int32)) hx (dc kX12_proofs_0 10 rfl) (by decide) rfl ?_
    exact r_iW hx hR (dc kX12_proofs_0 11 rfl)
  · refine j_aload_n (q := 9) hx (dc kX12_proofs_0 4 rfl) rfl 0 rfl rfl ?_
    refine j_iload_n (q := 10) hx (dc kX12_proofs_0 5 rfl) rfl 1 rfl rfl ?_
    refine j_iload_n (q := 11) hx (dc kX12_proofs_0 6 rfl) rfl 2 rfl rfl ?_
    refine j_iconst (q := 12) (v := (-1 : Int32)) hx (dc kX12_proofs_0 7 rfl) (by decide) rfl ?_
    refine w_cVIW (q := 15) (As := [.int x1, .int x2, .int (-1 : Int32)]) (st := []) hx (dc kX12_proofs_0 8 rfl) cf12 (by decide) rfl (cI _ my_X12_findsProofs lm_X12_467 (by decide)) vs_X12_findsProofs rfl (fun u hu => sX12_findsProofs _ _ _ _ _ _ _ _ hu) (fun e => ite_ne (by unfold mX12_findsProofs at e; exact e)) (Nat.zero_le _) rfl (fun v3 h4 => ?_)
    refine j_goto (q := 19) hx (dc kX12_proofs_0 9 rfl) (by decide) ?_
    exact r_iW hx hR (dc kX12_proofs_0 11 rfl)

set_option maxHeartbeats 4000000 in
set_option maxRecDepth 100000 in
theorem sX12_proof (l : Launch) (w : Wd) (x0 : Nat) (x1 : Int32) (x2 : Int32) (x3 : Int32) (x4 : Int32) (h : Hp) (u : (Int32 × Hp)) (hK : mX12_proof x0 x1 x2 x3 x4 h = some u) : M1 l w mi_X12_proof 5 [vR w x0, .int x1, .int x2, .int x3, .int x4] h u.2 (some (.int u.1)) := by
  refine M1.of (own := RX12) (T := fun _ r => r = u) hK (by decide +kernel) rfl (by first | (simp only [lg_lenR, lg_lenI, lg_lenL, lg_len0]; decide) | decide) (fun x hx hnl hhf hl hw hret hnm hQ h0e => ⟨?_, rfl⟩)
  subst hw
  subst hl
  have hR : Rt x h u.2 (some (.int u.1)) ((some .int)) := ⟨h0e, hhf, hret, hQ⟩
  have hn : ∀ i, i < 5 → i < x.2.2.1.1.1 := fun i hi => by rw [hnl]; exact hi
  have e0 : lv_args 0 [vR x.2.2.2 x0, .int x1, .int x2, .int x3, .int x4] = [(0, vR x.2.2.2 x0), (1, .int x1), (2, .int x2), (3, .int x3), (4, .int x4)] := by simp only [lv_argsR, lv_argsI, lv_argsL, lv_args0]
  rw [e0]
  unfold mX12_proof
  refine J.ckd fun hck => ?_
  refine j_aload_n (q := 1) hx (dc kX12_proof_0 0 rfl) rfl 0 rfl rfl ?_
  refine j_iload_n (q := 2) hx (dc kX12_proof_0 1 rfl) rfl 1 rfl rfl ?_
  refine w_cVIR (q := 5) (As := [.int x1]) (st := []) hx (dc kX12_proof_0 2 rfl) cf12 (by decide) rfl (cI _ my_X12_isCount lm_X12_380 (by decide)) vs_X12_isCount rfl (fun u hu => sX12_isCount _ _ _ _ _ _ hu) (fun e => ite_ne (by unfold mX12_isCount at e; exact e)) (Nat.zero_le _) rfl (fun v1 => ?_)
  refine j_if_eq (q := 8) (tgt := 33) hx (dc kX12_proof_0 3 rfl) (by decide) Iff.rfl rfl ?_ ?_
  · refine j_iconst (q := 34) (v := (-1 : Int32)) hx (dc kX12_proof_0 18 rfl) (by decide) rfl ?_
    exact r_iW hx hR (dc kX12_proof_0 19 rfl)
  · refine j_iload_n (q := 9) hx (dc kX12_proof_0 4 rfl) rfl 3 rfl rfl ?_
    refine j_if_lt (q := 12) (tgt := 33) hx (dc kX12_proof_0 5 rfl) (by decide) Iff.rfl rfl ?_ ?_
    · refine j_iconst (q := 34) (v := (-1 : Int32)) hx (dc kX12_proof_0 18 rfl) (by decide) rfl ?_
      exact r_iW hx hR (dc kX12_proof_0 19 rfl)
    · refine j_iload (q := 14) hx (dc kX12_proof_0 6 rfl) 4 rfl rfl ?_
      refine j_iconst (q := 15) (v := (0 : Int32)) hx (dc kX12_proof_0 7 rfl) (by decide) rfl ?_
      refine j_iconst (q := 16) (v := (1 : Int32)) hx (dc kX12_proof_0 8 rfl) (by decide) rfl ?_
      refine w_cSIR (q := 19) (As := [.int x4, .int (0 : Int32), .int (1 : Int32)]) (st := []) hx (dc kX12_proof_0 9 rfl) (cI _ my_X12_in lm_X12_85 (by decide)) st_X12_in rfl (fun u hu => sX12_in _ _ _ _ _ _ _ hu) (Nat.zero_le _) rfl (fun v3 => ?_)
      refine j_if_eq (q := 22) (tgt := 33) hx (dc kX12_proof_0 10 rfl) (by decide) Iff.rfl rfl ?_ ?_
      · refine j_iconst (q := 34) (v := (-1 : Int32)) hx (dc kX12_proof_0 18 rfl) (by decide) rfl ?_
        exact r_iW hx hR (dc kX12_proof_0 19 rfl)
      · refine j_aload_n (q := 23) hx (dc kX12_proof_0 11 rfl) rfl 0 rfl rfl ?_
        refine j_iload_n (q := 24) hx (dc kX12_proof_0 12 rfl) rfl 1 rfl rfl ?_
        refine j_iload_n (q := 25) hx (dc kX12_proof_0 13 rfl) rfl 2 rfl rfl ?_
        refine j_iload_n (q := 26) hx (dc kX12_proof_0 14 rfl) rfl 3 rfl rfl ?_
        refine w_cVIW (q := 29) (As := [.int x1, .int x2, .int x3]) (st := []) hx (dc kX12_proof_0 15 rfl) cf12 (by decide) rfl (cI _ my_X12_findsProofs lm_X12_467 (by decide)) vs_X12_findsProofs rfl (fun u hu => sX12_findsProofs _ _ _ _ _ _ _ _ hu) (fun e => ite_ne (by unfold mX12_findsProofs at e; exact e)) (Nat.zero_le _) rfl (fun v5 h6 => ?_)
        refine j_iload_n (q := 30) hx (dc kX12_proof_0 16 rfl) rfl 3 rfl rfl ?_
        refine j_icmp_gt (q := 33) (tgt := 35) hx (dc kX12_proof_0 17 rfl) (by decide) Iff.rfl rfl ?_ ?_
        · refine j_iload (q := 37) hx (dc kX12_proof_0 20 rfl) 4 rfl rfl ?_
          refine j_if_neS (q := 40) (tgt := 47) hx (dc kX12_proof_0 21 rfl) (by decide) rfl ?_ ?_
          · refine j_aload_n (q := 48) hx (dc kX12_proof_0 25 rfl) rfl 0 rfl rfl ?_
            refine w_gI (q := 51) hx (dc kX12_proof_0 26 rfl) ff_X12_32 lk_X12_422 rfl (fun v7 => ?_)
            exact r_iW hx hR (dc kX12_proof_0 27 rfl)
          · refine j_aload_n (q := 41) hx (dc kX12_proof_0 22 rfl) rfl 0 rfl rfl ?_
            refine w_gI (q := 44) hx (dc kX12_proof_0 23 rfl) ff_X12_31 lk_X12_419 rfl (fun v8 => ?_)
            refine j_goto (q := 51) hx (dc kX12_proof_0 24 rfl) (by decide) ?_
            exact r_iW hx hR (dc kX12_proof_0 27 rfl)
        · refine j_iconst (q := 34) (v := (-1 : Int32)) hx (dc kX12_proof_0 18 rfl) (by decide) rfl ?_
          exact r_iW hx hR (dc kX12_proof_0 19 rfl)

set_option maxHeartbeats 4000000 in
set_option maxRecDepth 100000 in
theorem sX12_tellsBy (l : Launch) (w : Wd) (x0 : Nat) (x1 : Int64) (x3 : Int64) (h : Hp) (u : Hp) (hK : mX12_tellsBy x0 x1 x3 h = some u) : M1 l w mi_X12_tellsBy 1 [vR w x0, .long x1, .long x3] h u (none) := by
  refine M1.of (own := RX12) (T := fun _ r => r = u) hK (by decide +kernel) rfl (by first | (simp only [lg_lenR, lg_lenI, lg_lenL, lg_len0]; decide) | decide) (fun x hx hnl hhf hl hw hret hnm hQ h0e => ⟨?_, rfl⟩)
  subst hw
  subst hl
  have hR : Rt x h u (none) (none) := ⟨h0e, hhf, hret, hQ⟩
  have hn : ∀ i, i < 11 → i < x.2.2.1.1.1 := fun i hi => by rw [hnl]; exact hi
  have e0 : lv_args 0 [vR x.2.2.2 x0, .long x1, .long x3] = [(0, vR x.2.2.2 x0), (1, .long x1), (3, .long x3)] := by simp only [lv_argsR, lv_argsI, lv_argsL, lv_args0]
  rw [e0]
  have hb6 : ∀ (x0 : Nat) (x1 : Int64) (x3 : Int64) (x5 : Int64) (x7 : Int64) (h : Hp), J x 6 [(0, vR x.2.2.2 x0), (1, .long x1), (3, .long x3), (5, .long x5), (7, .long x7)] [] h (mX12_tellsBy_l6 x0 x1 x3 x5 x7 h) (fun r => r = u) := by
    intro x0 x1 x3 x5 x7 h
    have hB : ∀ (x5 : Int64) (x7 : Int64), J x 6 [(0, vR x.2.2.2 x0), (1, .long x1), (3, .long x3), (5, .long x5), (7, .long x7)] [] h (mX12_tellsBy_l6f x0 x1 x3 h x5 x7) (TL (S := (Int64 × Int64)) x 6 (fun s => [(0, vR x.2.2.2 x0), (1, .long x1), (3, .long x3), (5, .long s.1), (7, .long s.2)]) [] (fun s => h) (fun r => r = u)) := by
      intro x5 x7
      unfold mX12_tellsBy_l6f
      refine j_lload (q := 8) hx (dc kX12_tellsBy_0 4 rfl) 4 rfl rfl ?_
      refine j_lconst (q := 9) (v := (0 : Int64)) hx (dc kX12_tellsBy_0 5 rfl) (by decide) rfl ?_
      refine j_lcmp (q := 10) hx (dc kX12_tellsBy_0 6 rfl) rfl ?_
      refine j_if_eq (q := 13) (tgt := 31) hx (dc kX12_tellsBy_0 7 rfl) (by decide) Iff.rfl rfl ?_ ?_
      · refine j_exit ?_
        refine j_aload_n (q := 32) hx (dc kX12_tellsBy_0 17 rfl) rfl 0 rfl rfl ?_
        refine j_lload_n (q := 33) hx (dc kX12_tellsBy_0 18 rfl) rfl 1 rfl rfl ?_
        refine j_lload (q := 35) hx (dc kX12_tellsBy_0 19 rfl) 3 rfl rfl ?_
        refine j_ldiv (q := 36) hx (dc kX12_tellsBy_0 20 rfl) rfl ?_
        refine w_sL (q := 39) hx (dc kX12_tellsBy_0 21 rfl) ff_X12_36 rfl lk_X12_471 (Or.inl rfl) rfl (fun h1 => ?_)
        refine j_aload_n (q := 40) hx (dc kX12_tellsBy_0 22 rfl) rfl 0 rfl rfl ?_
        refine j_lload_n (q := 41) hx (dc kX12_tellsBy_0 23 rfl) rfl 2 rfl rfl ?_
        refine j_lload (q := 43) hx (dc kX12_tellsBy_0 24 rfl) 3 rfl rfl ?_
        refine j_ldiv (q := 44) hx (dc kX12_tellsBy_0 25 rfl) rfl ?_
        refine w_sL (q := 47) hx (dc kX12_tellsBy_0 26 rfl) ff_X12_37 rfl lk_X12_474 (Or.inl rfl) rfl (fun h2 => ?_)
        exact r_vW hx hR (dc kX12_tellsBy_0 27 rfl)
      · refine j_lload (q := 15) hx (dc kX12_tellsBy_0 8 rfl) 3 rfl rfl ?_
        refine j_lload (q := 17) hx (dc kX12_tellsBy_0 9 rfl) 4 rfl rfl ?_
        refine j_lrem (q := 18) hx (dc kX12_tellsBy_0 10 rfl) rfl ?_
        refine j_lstore (q := 20) (i := 9) (l2 := [(0, vR x.2.2.2 x0), (1, .long x1), (3, .long x3), (7, .long x7)]) hx (dc kX12_tellsBy_0 11 rfl) (hn 10 (by decide)) [0, 1, 2, 4] rfl ⟨⟨show (0 : Nat) ≠ 9 by decide, Or.inl (show (0 : Nat) + 1 ≠ 9 by decide)⟩, ⟨⟨show (1 : Nat) ≠ 9 by decide, Or.inl (show (1 : Nat) + 1 ≠ 9 by decide)⟩, ⟨⟨show (3 : Nat) ≠ 9 by decide, Or.inl (show (3 : Nat) + 1 ≠ 9 by decide)⟩, ⟨⟨show (7 : Nat) ≠ 9 by decide, Or.inl (show (7 : Nat) + 1 ≠ 9 by decide)⟩, trivial⟩⟩⟩⟩ (by simp) rfl ?_
        refine j_lload (q := 22) hx (dc kX12_tellsBy_0 12 rfl) 4 rfl rfl ?_
        refine j_lstore (q := 24) (i := 5) (l2 := [(9, .long (x5 - x5 / x7 * x7)), (0, vR x.2.2.2 x0), (1, .long x1), (3, .long x3)]) hx (dc kX12_tellsBy_0 13 rfl) (hn 6 (by decide)) [0, 1, 2, 3] rfl ⟨⟨show (9 : Nat) ≠ 5 by decide, Or.inl (show (9 : Nat) + 1 ≠ 5 by decide)⟩, ⟨⟨show (0 : Nat) ≠ 5 by decide, Or.inl (show (0 : Nat) + 1 ≠ 5 by decide)⟩, ⟨⟨show (1 : Nat) ≠ 5 by decide, Or.inl (show (1 : Nat) + 1 ≠ 5 by decide)⟩, ⟨⟨show (3 : Nat) ≠ 5 by decide, Or.inl (show (3 : Nat) + 1 ≠ 5 by decide)⟩, trivial⟩⟩⟩⟩ (by simp) rfl ?_
        refine j_lload (q := 26) hx (dc kX12_tellsBy_0 14 rfl) 1 rfl rfl ?_
        refine j_lstore (q := 28) (i := 7) (l2 := [(5, .long x7), (0, vR x.2.2.2 x0), (1, .long x1), (3, .long x3)]) hx (dc kX12_tellsBy_0 15 rfl) (hn 8 (by decide)) [0, 2, 3, 4] rfl ⟨⟨show (5 : Nat) ≠ 7 by decide, Or.inl (show (5 : Nat) + 1 ≠ 7 by decide)⟩, ⟨⟨show (0 : Nat) ≠ 7 by decide, Or.inl (show (0 : Nat) + 1 ≠ 7 by decide)⟩, ⟨⟨show (1 : Nat) ≠ 7 by decide, Or.inl (show (1 : Nat) + 1 ≠ 7 by decide)⟩, ⟨⟨show (3 : Nat) ≠ 7 by decide, Or.inl (show (3 : Nat) + 1 ≠ 7 by decide)⟩, trivial⟩⟩⟩⟩ (by simp) rfl ?_
        refine j_goto (q := 6) hx (dc kX12_tellsBy_0 16 rfl) (by decide) ?_
        exact j_back [2, 3, 4, 1, 0] (x7, (x5 - x5 / x7 * x7)) rfl rfl
    exact j_loop (S := (Int64 × Int64)) (lvf := fun s => [(0, vR x.2.2.2 x0), (1, .long x1), (3, .long x3), (5, .long s.1), (7, .long s.2)]) (hpf := fun s => h) (f := (fun s : (Int64 × Int64) => mX12_tellsBy_l6f x0 x1 x3 h s.1 s.2)) (fun s => hB s.1 s.2) (x5, x7)
  unfold mX12_tellsBy
  refine J.ckd fun hck => ?_
  refine j_lload_n (q := 1) hx (dc kX12_tellsBy_0 0 rfl) rfl 2 rfl rfl ?_
  refine j_lstore (q := 3) (i := 5) (l2 := [(0, vR x.2.2.2 x0), (1, .long x1), (3, .long x3)]) hx (dc kX12_tellsBy_0 1 rfl) (hn 6 (by decide)) [0, 1, 2] rfl ⟨⟨show (0 : Nat) ≠ 5 by decide, Or.inl (show (0 : Nat) + 1 ≠ 5 by decide)⟩, ⟨⟨show (1 : Nat) ≠ 5 by decide, Or.inl (show (1 : Nat) + 1 ≠ 5 by decide)⟩, ⟨⟨show (3 : Nat) ≠ 5 by decide, Or.inl (show (3 : Nat) + 1 ≠ 5 by decide)⟩, trivial⟩⟩⟩ (by simp) rfl ?_
  refine j_lload_n (q := 4) hx (dc kX12_tellsBy_0 2 rfl) rfl 2 rfl rfl ?_
  refine j_lstore (q := 6) (i := 7) (l2 := [(5, .long x3), (0, vR x.2.2.2 x0), (1, .long x1), (3, .long x3)]) hx (dc kX12_tellsBy_0 3 rfl) (hn 8 (by decide)) [0, 1, 2, 3] rfl ⟨⟨show (5 : Nat) ≠ 7 by decide, Or.inl (show (5 : Nat) + 1 ≠ 7 by decide)⟩, ⟨⟨show (0 : Nat) ≠ 7 by decide, Or.inl (show (0 : Nat) + 1 ≠ 7 by decide)⟩, ⟨⟨show (1 : Nat) ≠ 7 by decide, Or.inl (show (1 : Nat) + 1 ≠ 7 by decide)⟩, ⟨⟨show (3 : Nat) ≠ 7 by decide, Or.inl (show (3 : Nat) + 1 ≠ 7 by decide)⟩, trivial⟩⟩⟩⟩ (by simp) rfl ?_
  exact j_sub [2, 3, 4, 1, 0] rfl (hb6 x0 x1 x3 x3 x1 h)

set_option maxHeartbeats 4000000 in
set_option maxRecDepth 100000 in
theorem sX12_weight (l : Launch) (w : Wd) (x0 : Nat) (x1 : Int32) (h : Hp) (u : Int64) (hK : mX12_weight x0 x1 h = some u) : M1 l w mi_X12_weight 2 [vR w x0, .int x1] h h (some (.long u)) := by
  refine M1.of (own := RX12) (T := fun _ r => r = u) hK (by decide +kernel) rfl (by first | (simp only [lg_lenR, lg_lenI, lg_lenL, lg_len0]; decide) | decide) (fun x hx hnl hhf hl hw hret hnm hQ h0e => ⟨?_, rfl⟩)
  subst hw
  subst hl
  have hR : Rt x h h (some (.long u)) ((some .long)) := ⟨h0e, hhf, hret, hQ⟩
  have hn : ∀ i, i < 5 → i < x.2.2.1.1.1 := fun i hi => by rw [hnl]; exact hi
  have e0 : lv_args 0 [vR x.2.2.2 x0, .int x1] = [(0, vR x.2.2.2 x0), (1, .int x1)] := by simp only [lv_argsR, lv_argsI, lv_argsL, lv_args0]
  rw [e0]
  have hb5 : ∀ (x0 : Nat) (x1 : Int32) (x2 : Int64) (x4 : Int32), J x 5 [(0, vR x.2.2.2 x0), (1, .int x1), (2, .long x2), (4, .int x4)] [] h (mX12_weight_l5 x0 x1 x2 x4 h) (fun r => r = u) := by
    intro x0 x1 x2 x4
    have hB : ∀ (x2 : Int64) (x4 : Int32), J x 5 [(0, vR x.2.2.2 x0), (1, .int x1), (2, .long x2), (4, .int x4)] [] h (mX12_weight_l5f x0 x1 h x2 x4) (TL (S := (Int64 × Int32)) x 5 (fun s => [(0, vR x.2.2.2 x0), (1, .int x1), (2, .long s.1), (4, .int s.2)]) [] (fun s => h) (fun r => r = u)) := by
      intro x2 x4
      have hb54 : ∀ (x0 : Nat) (x1 : Int32) (x4 : Int32) (t0 : Int64) (t1 : Int64), J x 54 [(0, vR x.2.2.2 x0), (1, .int x1), (4, .int x4)] [.long t1, .long t0] h (mX12_weight_b54 x0 x1 x4 t0 t1 h) (TL (S := (Int64 × Int32)) x 5 (fun s => [(0, vR x.2.2.2 x0), (1, .int x1), (2, .long s.1), (4, .int s.2)]) [] (fun s => h) (fun r => r = u)) := by
        intro x0 x1 x4 t0 t1
        unfold mX12_weight_b54
        refine j_lmul (q := 55) hx (dc kX12_weight_0 32 rfl) rfl ?_
        refine j_lstore_n (q := 56) (i := 2) (l2 := [(0, vR x.2.2.2 x0), (1, .int x1), (4, .int x4)]) hx (dc kX12_weight_0 33 rfl) rfl (hn 3 (by decide)) [0, 1, 2] rfl ⟨⟨show (0 : Nat) ≠ 2 by decide, Or.inl (show (0 : Nat) + 1 ≠ 2 by decide)⟩, ⟨⟨show (1 : Nat) ≠ 2 by decide, Or.inr rfl⟩, ⟨⟨show (4 : Nat) ≠ 2 by decide, Or.inl (show (4 : Nat) + 1 ≠ 2 by decide)⟩, trivial⟩⟩⟩ (by simp) rfl ?_
        refine j_iinc (q := 59) (l2 := [(2, .long (t0 * t1)), (0, vR x.2.2.2 x0), (1, .int x1)]) hx (dc kX12_weight_0 34 rfl) 3 rfl (v := (1 : Int32)) (by decide) (hn 4 (by decide)) [0, 1, 2] rfl ⟨⟨show (2 : Nat) ≠ 4 by decide, Or.inl (show (2 : Nat) + 1 ≠ 4 by decide)⟩, ⟨⟨show (0 : Nat) ≠ 4 by decide, Or.inl (show (0 : Nat) + 1 ≠ 4 by decide)⟩, ⟨⟨show (1 : Nat) ≠ 4 by decide, Or.inl (show (1 : Nat) + 1 ≠ 4 by decide)⟩, trivial⟩⟩⟩ rfl ?_
        refine j_goto (q := 5) hx (dc kX12_weight_0 35 rfl) (by decide) ?_
        exact j_back [2, 3, 1, 0] ((t0 * t1), (x4 + (1 : Int32))) rfl rfl
      unfold mX12_weight_l5f
      refine j_iload (q := 7) hx (dc kX12_weight_0 4 rfl) 3 rfl rfl ?_
      refine j_aload_n (q := 8) hx (dc kX12_weight_0 5 rfl) rfl 0 rfl rfl ?_
      refine w_gR (q := 11) hx (dc kX12_weight_0 6 rfl) ff_X12_0 lk_X12_7 rfl (fun v1 => ?_)
      refine j_iconst (q := 12) (v := (1 : Int32)) hx (dc kX12_weight_0 7 rfl) (by decide) rfl ?_
      refine j_ldI (q := 13) hx (dc kX12_weight_0 8 rfl) rfl (fun v2 => ?_)
      refine j_icmp_geS (q := 16) (tgt := 62) hx (dc kX12_weight_0 9 rfl) (by decide) rfl ?_ ?_
      · refine j_exit ?_
        refine j_lload_n (q := 63) hx (dc kX12_weight_0 36 rfl) rfl 2 rfl rfl ?_
        exact r_lR hx hR (dc kX12_weight_0 37 rfl)
      · refine j_lload_n (q := 17) hx (dc kX12_weight_0 10 rfl) rfl 2 rfl rfl ?_
        refine j_iload_n (q := 18) hx (dc kX12_weight_0 11 rfl) rfl 1 rfl rfl ?_
        refine j_iload (q := 20) hx (dc kX12_weight_0 12 rfl) 3 rfl rfl ?_
        refine w_cSIR (q := 23) (As := [.int x1, .int x4]) (st := [.long x2]) hx (dc kX12_weight_0 13 rfl) (cI _ my_X12_has lm_X12_239 (by decide)) st_X12_has rfl (fun u hu => sX12_has _ _ _ _ _ _ hu) (sum_le (sum_J sum_nil) (by decide)) rfl (fun v3 => ?_)
        refine j_if_eq (q := 26) (tgt := 40) hx (dc kX12_weight_0 14 rfl) (by decide) Iff.rfl rfl ?_ ?_
        · refine j_bipush (q := 42) (v := (10 : Int32)) hx (dc kX12_weight_0 23 rfl) (by decide) rfl ?_
          refine j_aload_n (q := 43) hx (dc kX12_weight_0 24 rfl) rfl 0 rfl rfl ?_
          refine w_gR (q := 46) hx (dc kX12_weight_0 25 rfl) ff_X12_0 lk_X12_7 rfl (fun v5 => ?_)
          refine j_bipush (q := 48) (v := (8 : Int32)) hx (dc kX12_weight_0 26 rfl) (by decide) rfl ?_
          refine j_iload (q := 50) hx (dc kX12_weight_0 27 rfl) 3 rfl rfl ?_
          refine j_iadd (q := 51) hx (dc kX12_weight_0 28 rfl) rfl ?_
          refine j_ldI (q := 52) hx (dc kX12_weight_0 29 rfl) rfl (fun v6 => ?_)
          refine j_isub (q := 53) hx (dc kX12_weight_0 30 rfl) rfl ?_
          refine j_i2l (q := 54) hx (dc kX12_weight_0 31 rfl) rfl ?_
          exact j_sub [0, 1, 3] rfl (hb54 x0 x1 x4 x2 (((10 : Int32) - v6).toInt64))
        · refine j_aload_n (q := 27) hx (dc kX12_weight_0 15 rfl) rfl 0 rfl rfl ?_
          refine w_gR (q := 30) hx (dc kX12_weight_0 16 rfl) ff_X12_0 lk_X12_7 rfl (fun v7 => ?_)
          refine j_bipush (q := 32) (v := (8 : Int32)) hx (dc kX12_weight_0 17 rfl) (by decide) rfl ?_
          refine j_iload (q := 34) hx (dc kX12_weight_0 18 rfl) 3 rfl rfl ?_
          refine j_iadd (q := 35) hx (dc kX12_weight_0 19 rfl) rfl ?_
          refine j_ldI (q := 36) hx (dc kX12_weight_0 20 rfl) rfl (fun v8 => ?_)
          refine j_i2l (q := 37) hx (dc kX12_weight_0 21 rfl) rfl ?_
          refine j_goto (q := 54) hx (dc kX12_weight_0 22 rfl) (by decide) ?_
          exact j_sub [0, 1, 3] rfl (hb54 x0 x1 x4 x2 v8.toInt64)
    exact j_loop (S := (Int64 × Int32)) (lvf := fun s => [(0, vR x.2.2.2 x0), (1, .int x1), (2, .long s.1), (4, .int s.2)]) (hpf := fun s => h) (f := (fun s : (Int64 × Int32) => mX12_weight_l5f x0 x1 h s.1 s.2)) (fun s => hB s.1 s.2) (x2, x4)
  unfold mX12_weight
  refine J.ckd fun hck => ?_
  refine j_lconst (q := 1) (v := (1 : Int64)) hx (dc kX12_weight_0 0 rfl) (by decide) rfl ?_
  refine j_lstore_n (q := 2) (i := 2) (l2 := [(0, vR x.2.2.2 x0), (1, .int x1)]) hx (dc kX12_weight_0 1 rfl) rfl (hn 3 (by decide)) [0, 1] rfl ⟨⟨show (0 : Nat) ≠ 2 by decide, Or.inl (show (0 : Nat) + 1 ≠ 2 by decide)⟩, ⟨⟨show (1 : Nat) ≠ 2 by decide, Or.inr rfl⟩, trivial⟩⟩ (by simp) rfl ?_
  refine j_iconst (q := 3) (v := (0 : Int32)) hx (dc kX12_weight_0 2 rfl) (by decide) rfl ?_
  refine j_istore (q := 5) (i := 4) (l2 := [(2, .long (1 : Int64)), (0, vR x.2.2.2 x0), (1, .int x1)]) hx (dc kX12_weight_0 3 rfl) (hn 4 (by decide)) [0, 1, 2] rfl ⟨⟨show (2 : Nat) ≠ 4 by decide, Or.inl (show (2 : Nat) + 1 ≠ 4 by decide)⟩, ⟨⟨show (0 : Nat) ≠ 4 by decide, Or.inl (show (0 : Nat) + 1 ≠ 4 by decide)⟩, ⟨⟨show (1 : Nat) ≠ 4 by decide, Or.inl (show (1 : Nat) + 1 ≠ 4 by decide)⟩, trivial⟩⟩⟩ rfl ?_
  exact j_sub [2, 3, 1, 0] rfl (hb5 x0 x1 (1 : Int64) (0 : Int32))

set_option maxHeartbeats 4000000 in
set_option maxRecDepth 100000 in
theorem sX12_chance (l : Launch) (w : Wd) (x0 : Nat) (x1 : Int32) (x2 : Int32) (h : Hp) (u : (Int32 × Hp)) (hK : mX12_chance x0 x1 x2 h = some u) : M1 l w mi_X12_chance 3 [vR w x0, .int x1, .int x2] h u.2 (some (.int u.1)) := by
  refine M1.of (own := RX12) (T := fun _ r => r = u) hK (by decide +kernel) rfl (by first | (simp only [lg_lenR, lg_lenI, lg_lenL, lg_len0]; decide) | decide) (fun x hx hnl hhf hl hw hret hnm hQ h0e => ⟨?_, rfl⟩)
  subst hw
  subst hl
  have hR : Rt x h u.2 (some (.int u.1)) ((some .int)) := ⟨h0e, hhf, hret, hQ⟩
  have hn : ∀ i, i < 8 → i < x.2.2.1.1.1 := fun i hi => by rw [hnl]; exact hi
  have e0 : lv_args 0 [vR x.2.2.2 x0, .int x1, .int x2] = [(0, vR x.2.2.2 x0), (1, .int x1), (2, .int x2)] := by simp only [lv_argsR, lv_argsI, lv_argsL, lv_args0]
  rw [e0]
  have hb106 : ∀ (t0 : Int64) (h : Hp), J x 106 [] [.long t0] h (mX12_chance_b106 t0 h) (fun r => r = u) := by
    intro t0 h
    unfold mX12_chance_b106
    refine j_l2i (q := 107) hx (dc kX12_chance_0 56 rfl) rfl ?_
    exact r_iW hx hR (dc kX12_chance_0 57 rfl)
  have hb27 : ∀ (x0 : Nat) (x1 : Int32) (x2 : Int32) (x3 : Int64) (x5 : Int64) (x7 : Int32) (h : Hp), J x 27 [(0, vR x.2.2.2 x0), (1, .int x1), (2, .int x2), (3, .long x3), (5, .long x5), (7, .int x7)] [] h (mX12_chance_l27 x0 x1 x2 x3 x5 x7 h) (fun r => r = u) := by
    intro x0 x1 x2 x3 x5 x7 h
    have hB : ∀ (x3 : Int64) (x5 : Int64) (x7 : Int32), J x 27 [(0, vR x.2.2.2 x0), (1, .int x1), (2, .int x2), (3, .long x3), (5, .long x5), (7, .int x7)] [] h (mX12_chance_l27f x0 x1 x2 h x3 x5 x7) (TL (S := (Int64 × Int64 × Int32)) x 27 (fun s => [(0, vR x.2.2.2 x0), (1, .int x1), (2, .int x2), (3, .long s.1), (5, .long s.2.1), (7, .int s.2.2)]) [] (fun s => h) (fun r => r = u)) := by
      intro x3 x5 x7
      have hb78 : ∀ (x0 : Nat) (x1 : Int32) (x2 : Int32) (x3 : Int64) (x5 : Int64) (x7 : Int32) (h : Hp), J x 78 [(0, vR x.2.2.2 x0), (1, .int x1), (2, .int x2), (3, .long x3), (5, .long x5), (7, .int x7)] [] h (mX12_chance_b78 x0 x1 x2 x3 x5 x7 h) (TL (S := (Int64 × Int64 × Int32)) x 27 (fun s => [(0, vR x.2.2.2 x0), (1, .int x1), (2, .int x2), (3, .long s.1), (5, .long s.2.1), (7, .int s.2.2)]) [] (fun s => h) (fun r => r = u)) := by
        intro x0 x1 x2 x3 x5 x7 h
        unfold mX12_chance_b78
        refine j_iinc (q := 81) (l2 := [(0, vR x.2.2.2 x0), (1, .int x1), (2, .int x2), (3, .long x3), (5, .long x5)]) hx (dc kX12_chance_0 43 rfl) 5 rfl (v := (1 : Int32)) (by decide) (hn 7 (by decide)) [0, 1, 2, 3, 4] rfl ⟨⟨show (0 : Nat) ≠ 7 by decide, Or.inl (show (0 : Nat) + 1 ≠ 7 by decide)⟩, ⟨⟨show (1 : Nat) ≠ 7 by decide, Or.inl (show (1 : Nat) + 1 ≠ 7 by decide)⟩, ⟨⟨show (2 : Nat) ≠ 7 by decide, Or.inl (show (2 : Nat) + 1 ≠ 7 by decide)⟩, ⟨⟨show (3 : Nat) ≠ 7 by decide, Or.inl (show (3 : Nat) + 1 ≠ 7 by decide)⟩, ⟨⟨show (5 : Nat) ≠ 7 by decide, Or.inl (show (5 : Nat) + 1 ≠ 7 by decide)⟩, trivial⟩⟩⟩⟩⟩ rfl ?_
        refine j_goto (q := 27) hx (dc kX12_chance_0 44 rfl) (by decide) ?_
        exact j_back [1, 2, 3, 4, 5, 0] (x3, x5, (x7 + (1 : Int32))) rfl rfl
      have hb76 : ∀ (x0 : Nat) (x1 : Int32) (x2 : Int32) (x5 : Int64) (x7 : Int32) (t0 : Int64) (t1 : Int64) (h : Hp), J x 76 [(0, vR x.2.2.2 x0), (1, .int x1), (2, .int x2), (5, .long x5), (7, .int x7)] [.long t1, .long t0] h (mX12_chance_b76 x0 x1 x2 x5 x7 t0 t1 h) (TL (S := (Int64 × Int64 × Int32)) x 27 (fun s => [(0, vR x.2.2.2 x0), (1, .int x1), (2, .int x2), (3, .long s.1), (5, .long s.2.1), (7, .int s.2.2)]) [] (fun s => h) (fun r => r = u)) := by
        intro x0 x1 x2 x5 x7 t0 t1 h
        unfold mX12_chance_b76
        refine j_ladd (q := 77) hx (dc kX12_chance_0 41 rfl) rfl ?_
        refine j_lstore_n (q := 78) (i := 3) (l2 := [(0, vR x.2.2.2 x0), (1, .int x1), (2, .int x2), (5, .long x5), (7, .int x7)]) hx (dc kX12_chance_0 42 rfl) rfl (hn 4 (by decide)) [0, 1, 2, 3, 4] rfl ⟨⟨show (0 : Nat) ≠ 3 by decide, Or.inl (show (0 : Nat) + 1 ≠ 3 by decide)⟩, ⟨⟨show (1 : Nat) ≠ 3 by decide, Or.inl (show (1 : Nat) + 1 ≠ 3 by decide)⟩, ⟨⟨show (2 : Nat) ≠ 3 by decide, Or.inr rfl⟩, ⟨⟨show (5 : Nat) ≠ 3 by decide, Or.inl (show (5 : Nat) + 1 ≠ 3 by decide)⟩, ⟨⟨show (7 : Nat) ≠ 3 by decide, Or.inl (show (7 : Nat) + 1 ≠ 3 by decide)⟩, trivial⟩⟩⟩⟩⟩ (by simp) rfl ?_
        exact j_sub [1, 2, 3, 0, 4, 5] rfl (hb78 x0 x1 x2 (t0 + t1) x5 x7 h)
      unfold mX12_chance_l27f
      refine j_iload (q := 29) hx (dc kX12_chance_0 17 rfl) 5 rfl rfl ?_
      refine j_sipush (q := 32) (v := (256 : Int32)) hx (dc kX12_chance_0 18 rfl) (by decide) rfl ?_
      refine j_icmp_geS (q := 35) (tgt := 84) hx (dc kX12_chance_0 19 rfl) (by decide) rfl ?_ ?_
      · refine j_exit ?_
        refine j_aload_n (q := 85) hx (dc kX12_chance_0 45 rfl) rfl 0 rfl rfl ?_
        refine j_lload_n (q := 86) hx (dc kX12_chance_0 46 rfl) rfl 3 rfl rfl ?_
        refine j_lload (q := 88) hx (dc kX12_chance_0 47 rfl) 4 rfl rfl ?_
        refine w_cVVW (q := 91) (As := [.long x3, .long x5]) (st := []) hx (dc kX12_chance_0 48 rfl) cf12 (by decide) rfl (cI _ my_X12_tellsBy lm_X12_481 (by decide)) vs_X12_tellsBy rfl (fun u hu => sX12_tellsBy _ _ _ _ _ _ _ hu) (fun e => ite_ne (by unfold mX12_tellsBy at e; exact e)) (Nat.zero_le _) rfl (fun h6 => ?_)
        refine j_iload_n (q := 92) hx (dc kX12_chance_0 49 rfl) rfl 2 rfl rfl ?_
        refine j_if_neS (q := 95) (tgt := 102) hx (dc kX12_chance_0 50 rfl) (by decide) rfl ?_ ?_
        · refine j_aload_n (q := 103) hx (dc kX12_chance_0 54 rfl) rfl 0 rfl rfl ?_
          refine w_gL (q := 106) hx (dc kX12_chance_0 55 rfl) ff_X12_37 lk_X12_474 rfl (fun v7 => ?_)
          exact j_sub [] rfl (hb106 v7 h6)
        · refine j_aload_n (q := 96) hx (dc kX12_chance_0 51 rfl) rfl 0 rfl rfl ?_
          refine w_gL (q := 99) hx (dc kX12_chance_0 52 rfl) ff_X12_36 lk_X12_471 rfl (fun v8 => ?_)
          refine j_goto (q := 106) hx (dc kX12_chance_0 53 rfl) (by decide) ?_
          exact j_sub [] rfl (hb106 v8 h6)
      · refine j_aload_n (q := 36) hx (dc kX12_chance_0 20 rfl) rfl 0 rfl rfl ?_
        refine j_iload (q := 38) hx (dc kX12_chance_0 21 rfl) 5 rfl rfl ?_
        refine w_cVIR (q := 41) (As := [.int x7]) (st := []) hx (dc kX12_chance_0 22 rfl) cf12 (by decide) rfl (cI _ my_X12_isLeft lm_X12_398 (by decide)) vs_X12_isLeft rfl (fun u hu => sX12_isLeft _ _ _ _ _ _ hu) (fun e => ite_ne (by unfold mX12_isLeft at e; exact e)) (Nat.zero_le _) rfl (fun v9 => ?_)
        refine j_if_eq (q := 44) (tgt := 78) hx (dc kX12_chance_0 23 rfl) (by decide) Iff.rfl rfl ?_ ?_
        · exact hb78 x0 x1 x2 x3 x5 x7 h
        · refine j_lload (q := 46) hx (dc kX12_chance_0 24 rfl) 4 rfl rfl ?_
          refine j_aload_n (q := 47) hx (dc kX12_chance_0 25 rfl) rfl 0 rfl rfl ?_
          refine j_iload (q := 49) hx (dc kX12_chance_0 26 rfl) 5 rfl rfl ?_
          refine w_cVJR (q := 52) (As := [.int x7]) (st := [.long x5]) hx (dc kX12_chance_0 27 rfl) cf12 (by decide) rfl (cI _ my_X12_weight lm_X12_477 (by decide)) vs_X12_weight rfl (fun u hu => sX12_weight _ _ _ _ _ _ hu) (fun e => ite_ne (by unfold mX12_weight at e; exact e)) (sum_le (sum_J sum_nil) (by decide)) rfl (fun v11 => ?_)
          refine j_ladd (q := 53) hx (dc kX12_chance_0 28 rfl) rfl ?_
          refine j_lstore (q := 55) (i := 5) (l2 := [(0, vR x.2.2.2 x0), (1, .int x1), (2, .int x2), (3, .long x3), (7, .int x7)]) hx (dc kX12_chance_0 29 rfl) (hn 6 (by decide)) [0, 1, 2, 3, 5] rfl ⟨⟨show (0 : Nat) ≠ 5 by decide, Or.inl (show (0 : Nat) + 1 ≠ 5 by decide)⟩, ⟨⟨show (1 : Nat) ≠ 5 by decide, Or.inl (show (1 : Nat) + 1 ≠ 5 by decide)⟩, ⟨⟨show (2 : Nat) ≠ 5 by decide, Or.inl (show (2 : Nat) + 1 ≠ 5 by decide)⟩, ⟨⟨show (3 : Nat) ≠ 5 by decide, Or.inl (show (3 : Nat) + 1 ≠ 5 by decide)⟩, ⟨⟨show (7 : Nat) ≠ 5 by decide, Or.inl (show (7 : Nat) + 1 ≠ 5 by decide)⟩, trivial⟩⟩⟩⟩⟩ (by simp) rfl ?_
          refine j_lload_n (q := 56) hx (dc kX12_chance_0 30 rfl) rfl 4 rfl rfl ?_
          refine j_aload_n (q := 57) hx (dc kX12_chance_0 31 rfl) rfl 1 rfl rfl ?_
          refine j_iload_n (q := 58) hx (dc kX12_chance_0 32 rfl) rfl 2 rfl rfl ?_
          refine j_iload (q := 60) hx (dc kX12_chance_0 33 rfl) 5 rfl rfl ?_
          refine w_cVIR (q := 63) (As := [.int x1, .int x7]) (st := [.long x3]) hx (dc kX12_chance_0 34 rfl) cf12 (by decide) rfl (cI _ my_X12_isWon lm_X12_416 (by decide)) vs_X12_isWon rfl (fun u hu => sX12_isWon _ _ _ _ _ _ _ hu) (fun e => ite_ne (by unfold mX12_isWon at e; exact e)) (sum_le (sum_J sum_nil) (by decide)) rfl (fun v13 => ?_)
          refine j_if_eq (q := 66) (tgt := 75) hx (dc kX12_chance_0 35 rfl) (by decide) Iff.rfl rfl ?_ ?_
          · refine j_lconst (q := 76) (v := (0 : Int64)) hx (dc kX12_chance_0 40 rfl) (by decide) rfl ?_
            exact j_sub [1, 2, 3, 0, 5] rfl (hb76 x0 x1 x2 (x5 + v11) x7 x3 (0 : Int64) h)
          · refine j_aload_n (q := 67) hx (dc kX12_chance_0 36 rfl) rfl 1 rfl rfl ?_
            refine j_iload (q := 69) hx (dc kX12_chance_0 37 rfl) 5 rfl rfl ?_
            refine w_cVJR (q := 72) (As := [.int x7]) (st := [.long x3]) hx (dc kX12_chance_0 38 rfl) cf12 (by decide) rfl (cI _ my_X12_weight lm_X12_477 (by decide)) vs_X12_weight rfl (fun u hu => sX12_weight _ _ _ _ _ _ hu) (fun e => ite_ne (by unfold mX12_weight at e; exact e)) (sum_le (sum_J sum_nil) (by decide)) rfl (fun v15 => ?_)
            refine j_goto (q := 76) hx (dc kX12_chance_0 39 rfl) (by decide) ?_
            exact j_sub [1, 2, 3, 0, 5] rfl (hb76 x0 x1 x2 (x5 + v11) x7 x3 v15 h)
    exact j_loop (S := (Int64 × Int64 × Int32)) (lvf := fun s => [(0, vR x.2.2.2 x0), (1, .int x1), (2, .int x2), (3, .long s.1), (5, .long s.2.1), (7, .int s.2.2)]) (hpf := fun s => h) (f := (fun s : (Int64 × Int64 × Int32) => mX12_chance_l27f x0 x1 x2 h s.1 s.2.1 s.2.2)) (fun s => hB s.1 s.2.1 s.2.2) (x3, x5, x7)
  unfold mX12_chance
  refine J.ckd fun hck => ?_
  refine j_aload_n (q := 1) hx (dc kX12_chance_0 0 rfl) rfl 0 rfl rfl ?_
  refine j_iload_n (q := 2) hx (dc kX12_chance_0 1 rfl) rfl 1 rfl rfl ?_
  refine w_cVIR (q := 5) (As := [.int x1]) (st := []) hx (dc kX12_chance_0 2 rfl) cf12 (by decide) rfl (cI _ my_X12_isCount lm_X12_380 (by decide)) vs_X12_isCount rfl (fun u hu => sX12_isCount _ _ _ _ _ _ hu) (fun e => ite_ne (by unfold mX12_isCount at e; exact e)) (Nat.zero_le _) rfl (fun v1 => ?_)
  refine j_if_eq (q := 8) (tgt := 17) hx (dc kX12_chance_0 3 rfl) (by decide) Iff.rfl rfl ?_ ?_
  · refine j_iconst (q := 18) (v := (-1 : Int32)) hx (dc kX12_chance_0 9 rfl) (by decide) rfl ?_
    exact r_iW hx hR (dc kX12_chance_0 10 rfl)
  · refine j_iload_n (q := 9) hx (dc kX12_chance_0 4 rfl) rfl 2 rfl rfl ?_
    refine j_iconst (q := 10) (v := (0 : Int32)) hx (dc kX12_chance_0 5 rfl) (by decide) rfl ?_
    refine j_iconst (q := 11) (v := (1 : Int32)) hx (dc kX12_chance_0 6 rfl) (by decide) rfl ?_
    refine w_cSIR (q := 14) (As := [.int x2, .int (0 : Int32), .int (1 : Int32)]) (st := []) hx (dc kX12_chance_0 7 rfl) (cI _ my_X12_in lm_X12_85 (by decide)) st_X12_in rfl (fun u hu => sX12_in _ _ _ _ _ _ _ hu) (Nat.zero_le _) rfl (fun v3 => ?_)
    refine j_if_neS (q := 17) (tgt := 19) hx (dc kX12_chance_0 8 rfl) (by decide) rfl ?_ ?_
    · refine j_lconst (q := 20) (v := (0 : Int64)) hx (dc kX12_chance_0 11 rfl) (by decide) rfl ?_
      refine j_lstore_n (q := 21) (i := 3) (l2 := [(0, vR x.2.2.2 x0), (1, .int x1), (2, .int x2)]) hx (dc kX12_chance_0 12 rfl) rfl (hn 4 (by decide)) [0, 1, 2] rfl ⟨⟨show (0 : Nat) ≠ 3 by decide, Or.inl (show (0 : Nat) + 1 ≠ 3 by decide)⟩, ⟨⟨show (1 : Nat) ≠ 3 by decide, Or.inl (show (1 : Nat) + 1 ≠ 3 by decide)⟩, ⟨⟨show (2 : Nat) ≠ 3 by decide, Or.inr rfl⟩, trivial⟩⟩⟩ (by simp) rfl ?_
      refine j_lconst (q := 22) (v := (0 : Int64)) hx (dc kX12_chance_0 13 rfl) (by decide) rfl ?_
      refine j_lstore (q := 24) (i := 5) (l2 := [(3, .long (0 : Int64)), (0, vR x.2.2.2 x0), (1, .int x1), (2, .int x2)]) hx (dc kX12_chance_0 14 rfl) (hn 6 (by decide)) [0, 1, 2, 3] rfl ⟨⟨show (3 : Nat) ≠ 5 by decide, Or.inl (show (3 : Nat) + 1 ≠ 5 by decide)⟩, ⟨⟨show (0 : Nat) ≠ 5 by decide, Or.inl (show (0 : Nat) + 1 ≠ 5 by decide)⟩, ⟨⟨show (1 : Nat) ≠ 5 by decide, Or.inl (show (1 : Nat) + 1 ≠ 5 by decide)⟩, ⟨⟨show (2 : Nat) ≠ 5 by decide, Or.inl (show (2 : Nat) + 1 ≠ 5 by decide)⟩, trivial⟩⟩⟩⟩ (by simp) rfl ?_
      refine j_iconst (q := 25) (v := (0 : Int32)) hx (dc kX12_chance_0 15 rfl) (by decide) rfl ?_
      refine j_istore (q := 27) (i := 7) (l2 := [(5, .long (0 : Int64)), (3, .long (0 : Int64)), (0, vR x.2.2.2 x0), (1, .int x1), (2, .int x2)]) hx (dc kX12_chance_0 16 rfl) (hn 7 (by decide)) [0, 1, 2, 3, 4] rfl ⟨⟨show (5 : Nat) ≠ 7 by decide, Or.inl (show (5 : Nat) + 1 ≠ 7 by decide)⟩, ⟨⟨show (3 : Nat) ≠ 7 by decide, Or.inl (show (3 : Nat) + 1 ≠ 7 by decide)⟩, ⟨⟨show (0 : Nat) ≠ 7 by decide, Or.inl (show (0 : Nat) + 1 ≠ 7 by decide)⟩, ⟨⟨show (1 : Nat) ≠ 7 by decide, Or.inl (show (1 : Nat) + 1 ≠ 7 by decide)⟩, ⟨⟨show (2 : Nat) ≠ 7 by decide, Or.inl (show (2 : Nat) + 1 ≠ 7 by decide)⟩, trivial⟩⟩⟩⟩⟩ rfl ?_
      exact j_sub [3, 4, 5, 2, 1, 0] rfl (hb27 x0 x1 x2 (0 : Int64) (0 : Int64) (0 : Int32) h)
    · refine j_iconst (q := 18) (v := (-1 : Int32)) hx (dc kX12_chance_0 9 rfl) (by decide) rfl ?_
      exact r_iW hx hR (dc kX12_chance_0 10 rfl)

set_option maxHeartbeats 4000000 in
set_option maxRecDepth 100000 in
theorem sX12_laysWins (l : Launch) (w : Wd) (x0 : Nat) (h : Hp) (u : Hp) (hK : mX12_laysWins x0 h = some u) : M1 l w mi_X12_laysWins 7 [vR w x0] h u (none) := by
  refine M1.of (own := RX12) (T := fun _ r => r = u) hK (by decide +kernel) rfl (by first | (simp only [lg_lenR, lg_lenI, lg_lenL, lg_len0]; decide) | decide) (fun x hx hnl hhf hl hw hret hnm hQ h0e => ⟨?_, rfl⟩)
  subst hw
  subst hl
  have hR : Rt x h u (none) (none) := ⟨h0e, hhf, hret, hQ⟩
  have hn : ∀ i, i < 4 → i < x.2.2.1.1.1 := fun i hi => by rw [hnl]; exact hi
  have e0 : lv_args 0 [vR x.2.2.2 x0] = [(0, vR x.2.2.2 x0)] := by simp only [lv_argsR, lv_argsI, lv_argsL, lv_args0]
  rw [e0]
  have hb11 : ∀ (x0 : Nat) (x1 : Int32) (x2 : Int32) (h : Hp), J x 11 [(0, vR x.2.2.2 x0), (1, .int x1), (2, .int x2)] [] h (mX12_laysWins_l11 x0 x1 x2 h) (fun r => r = u) := by
    intro x0 x1 x2 h
    have hB : ∀ (x2 : Int32) (h : Hp), J x 11 [(0, vR x.2.2.2 x0), (1, .int x1), (2, .int x2)] [] h (mX12_laysWins_l11f x0 x1 x2 h) (TL (S := (Int32 × Hp)) x 11 (fun s => [(0, vR x.2.2.2 x0), (1, .int x1), (2, .int s.1)]) [] (fun s => s.2) (fun r => r = u)) := by
      intro x2 h
      have hb27 : ∀ (x0 : Nat) (x1 : Int32) (x2 : Int32) (x3 : Int32) (h : Hp), J x 27 [(0, vR x.2.2.2 x0), (1, .int x1), (2, .int x2), (3, .int x3)] [] h (mX12_laysWins_l27 x0 x1 x2 x3 h) (TL (S := (Int32 × Hp)) x 11 (fun s => [(0, vR x.2.2.2 x0), (1, .int x1), (2, .int s.1)]) [] (fun s => s.2) (fun r => r = u)) := by
        intro x0 x1 x2 x3 h
        have hB : ∀ (x3 : Int32) (h : Hp), J x 27 [(0, vR x.2.2.2 x0), (1, .int x1), (2, .int x2), (3, .int x3)] [] h (mX12_laysWins_l27f x0 x1 x2 x3 h) (TL (S := (Int32 × Hp)) x 27 (fun s => [(0, vR x.2.2.2 x0), (1, .int x1), (2, .int x2), (3, .int s.1)]) [] (fun s => s.2) (TL (S := (Int32 × Hp)) x 11 (fun s => [(0, vR x.2.2.2 x0), (1, .int x1), (2, .int s.1)]) [] (fun s => s.2) (fun r => r = u))) := by
          intro x3 h
          have hb69 : ∀ (x0 : Nat) (x1 : Int32) (x2 : Int32) (x3 : Int32) (t0 : Nat) (t1 : Int32) (t2 : Int32) (t3 : Int32) (h : Hp), J x 69 [(0, vR x.2.2.2 x0), (1, .int x1), (2, .int x2), (3, .int x3)] [.int t3, .int t2, .int t1, vR x.2.2.2 t0] h (mX12_laysWins_b69 x0 x1 x2 x3 t0 t1 t2 t3 h) (TL (S := (Int32 × Hp)) x 27 (fun s => [(0, vR x.2.2.2 x0), (1, .int x1), (2, .int x2), (3, .int s.1)]) [] (fun s => s.2) (TL (S := (Int32 × Hp)) x 11 (fun s => [(0, vR x.2.2.2 x0), (1, .int x1), (2, .int s.1)]) [] (fun s => s.2) (fun r => r = u))) := by
            intro x0 x1 x2 x3 t0 t1 t2 t3 h
            unfold mX12_laysWins_b69
            refine j_ior (q := 70) hx (dc kX12_laysWins_0 42 rfl) rfl ?_
            refine w_stI (q := 71) hx (dc kX12_laysWins_0 43 rfl) rfl (fun h13 => ?_)
            refine j_iinc (q := 74) (l2 := [(0, vR x.2.2.2 x0), (1, .int x1), (2, .int x2)]) hx (dc kX12_laysWins_0 44 rfl) 3 rfl (v := (1 : Int32)) (by decide) (hn 3 (by decide)) [0, 1, 2] rfl ⟨⟨show (0 : Nat) ≠ 3 by decide, Or.inl (show (0 : Nat) + 1 ≠ 3 by decide)⟩, ⟨⟨show (1 : Nat) ≠ 3 by decide, Or.inl (show (1 : Nat) + 1 ≠ 3 by decide)⟩, ⟨⟨show (2 : Nat) ≠ 3 by decide, Or.inr rfl⟩, trivial⟩⟩⟩ rfl ?_
            refine j_goto (q := 27) hx (dc kX12_laysWins_0 45 rfl) (by decide) ?_
            exact j_back [1, 2, 3, 0] ((x3 + (1 : Int32)), h13) rfl rfl
          have hb68 : ∀ (x0 : Nat) (x1 : Int32) (x2 : Int32) (x3 : Int32) (t0 : Nat) (t1 : Int32) (t2 : Int32) (h : Hp), J x 68 [(0, vR x.2.2.2 x0), (1, .int x1), (2, .int x2), (3, .int x3)] [.int t2, .int t1, vR x.2.2.2 t0] h (mX12_laysWins_b68 x0 x1 x2 x3 t0 t1 t2 h) (TL (S := (Int32 × Hp)) x 27 (fun s => [(0, vR x.2.2.2 x0), (1, .int x1), (2, .int x2), (3, .int s.1)]) [] (fun s => s.2) (TL (S := (Int32 × Hp)) x 11 (fun s => [(0, vR x.2.2.2 x0), (1, .int x1), (2, .int s.1)]) [] (fun s => s.2) (fun r => r = u))) := by
            intro x0 x1 x2 x3 t0 t1 t2 h
            unfold mX12_laysWins_b68
            refine j_iconst (q := 69) (v := (0 : Int32)) hx (dc kX12_laysWins_0 41 rfl) (by decide) rfl ?_
            exact hb69 x0 x1 x2 x3 t0 t1 t2 (0 : Int32) h
          unfold mX12_laysWins_l27f
          refine j_iload_n (q := 28) hx (dc kX12_laysWins_0 17 rfl) rfl 3 rfl rfl ?_
          refine j_aload_n (q := 29) hx (dc kX12_laysWins_0 18 rfl) rfl 0 rfl rfl ?_
          refine w_gR (q := 32) hx (dc kX12_laysWins_0 19 rfl) ff_X12_4 lk_X12_23 rfl (fun v7 => ?_)
          refine j_bipush (q := 34) (v := (18 : Int32)) hx (dc kX12_laysWins_0 20 rfl) (by decide) rfl ?_
          refine j_ldI (q := 35) hx (dc kX12_laysWins_0 21 rfl) rfl (fun v8 => ?_)
          refine j_icmp_geS (q := 38) (tgt := 77) hx (dc kX12_laysWins_0 22 rfl) (by decide) rfl ?_ ?_
          · refine j_exit ?_
            refine j_iinc (q := 80) (l2 := [(0, vR x.2.2.2 x0), (1, .int x1)]) hx (dc kX12_laysWins_0 46 rfl) 2 rfl (v := (1 : Int32)) (by decide) (hn 2 (by decide)) [0, 1] rfl ⟨⟨show (0 : Nat) ≠ 2 by decide, Or.inl (show (0 : Nat) + 1 ≠ 2 by decide)⟩, ⟨⟨show (1 : Nat) ≠ 2 by decide, Or.inr rfl⟩, trivial⟩⟩ rfl ?_
            refine j_goto (q := 11) hx (dc kX12_laysWins_0 47 rfl) (by decide) ?_
            exact j_back [1, 2, 0] ((x2 + (1 : Int32)), h) rfl rfl
          · refine j_aload_n (q := 39) hx (dc kX12_laysWins_0 23 rfl) rfl 0 rfl rfl ?_
            refine w_gR (q := 42) hx (dc kX12_laysWins_0 24 rfl) ff_X12_38 lk_X12_76 rfl (fun v9 => ?_)
            refine j_iload_n (q := 43) hx (dc kX12_laysWins_0 25 rfl) rfl 2 rfl rfl ?_
            refine j_dup2_11 (q := 44) hx (dc kX12_laysWins_0 26 rfl) rfl (vR_cat _ _) rfl ?_
            refine j_ldI (q := 45) hx (dc kX12_laysWins_0 27 rfl) rfl (fun v10 => ?_)
            refine j_iload_n (q := 46) hx (dc kX12_laysWins_0 28 rfl) rfl 1 rfl rfl ?_
            refine j_iload_n (q := 47) hx (dc kX12_laysWins_0 29 rfl) rfl 3 rfl rfl ?_
            refine w_cSIR (q := 50) (As := [.int x1, .int x3]) (st := [.int v10, .int x2, vR x.2.2.2 v9]) hx (dc kX12_laysWins_0 30 rfl) (cI _ my_X12_has lm_X12_239 (by decide)) st_X12_has rfl (fun u hu => sX12_has _ _ _ _ _ _ hu) (sum_le (sum_I (sum_I (sum_R sum_nil))) (by decide)) rfl (fun v11 => ?_)
            refine j_if_eq (q := 53) (tgt := 68) hx (dc kX12_laysWins_0 31 rfl) (by decide) Iff.rfl rfl ?_ ?_
            · exact hb68 x0 x1 x2 x3 v9 x2 v10 h
            · refine j_aload_n (q := 54) hx (dc kX12_laysWins_0 32 rfl) rfl 0 rfl rfl ?_
              refine j_iload_n (q := 55) hx (dc kX12_laysWins_0 33 rfl) rfl 3 rfl rfl ?_
              refine j_iload_n (q := 56) hx (dc kX12_laysWins_0 34 rfl) rfl 2 rfl rfl ?_
              refine w_cVIR (q := 59) (As := [.int x3, .int x2]) (st := [.int v10, .int x2, vR x.2.2.2 v9]) hx (dc kX12_laysWins_0 35 rfl) cf12 (by decide) rfl (cI _ my_X12_isWon lm_X12_416 (by decide)) vs_X12_isWon rfl (fun u hu => sX12_isWon _ _ _ _ _ _ _ hu) (fun e => ite_ne (by unfold mX12_isWon at e; exact e)) (sum_le (sum_I (sum_I (sum_R sum_nil))) (by decide)) rfl (fun v14 => ?_)
              refine j_if_eq (q := 62) (tgt := 68) hx (dc kX12_laysWins_0 36 rfl) (by decide) Iff.rfl rfl ?_ ?_
              · exact hb68 x0 x1 x2 x3 v9 x2 v10 h
              · refine j_iconst (q := 63) (v := (1 : Int32)) hx (dc kX12_laysWins_0 37 rfl) (by decide) rfl ?_
                refine j_iload_n (q := 64) hx (dc kX12_laysWins_0 38 rfl) rfl 3 rfl rfl ?_
                refine j_ishl (q := 65) hx (dc kX12_laysWins_0 39 rfl) rfl ?_
                refine j_goto (q := 69) hx (dc kX12_laysWins_0 40 rfl) (by decide) ?_
                exact hb69 x0 x1 x2 x3 v9 x2 v10 ((1 : Int32) <<< (x3 &&& 31)) h
        exact j_loop (S := (Int32 × Hp)) (lvf := fun s => [(0, vR x.2.2.2 x0), (1, .int x1), (2, .int x2), (3, .int s.1)]) (hpf := fun s => s.2) (f := (fun s : (Int32 × Hp) => mX12_laysWins_l27f x0 x1 x2 s.1 s.2)) (fun s => hB s.1 s.2) (x3, h)
      unfold mX12_laysWins_l11f
      refine j_iload_n (q := 12) hx (dc kX12_laysWins_0 7 rfl) rfl 2 rfl rfl ?_
      refine j_sipush (q := 15) (v := (256 : Int32)) hx (dc kX12_laysWins_0 8 rfl) (by decide) rfl ?_
      refine j_icmp_geS (q := 18) (tgt := 83) hx (dc kX12_laysWins_0 9 rfl) (by decide) rfl ?_ ?_
      · refine j_exit ?_
        exact r_vW hx hR (dc kX12_laysWins_0 48 rfl)
      · refine j_aload_n (q := 19) hx (dc kX12_laysWins_0 10 rfl) rfl 0 rfl rfl ?_
        refine w_gR (q := 22) hx (dc kX12_laysWins_0 11 rfl) ff_X12_38 lk_X12_76 rfl (fun v5 => ?_)
        refine j_iload_n (q := 23) hx (dc kX12_laysWins_0 12 rfl) rfl 2 rfl rfl ?_
        refine j_iconst (q := 24) (v := (0 : Int32)) hx (dc kX12_laysWins_0 13 rfl) (by decide) rfl ?_
        refine w_stI (q := 25) hx (dc kX12_laysWins_0 14 rfl) rfl (fun h6 => ?_)
        refine j_iconst (q := 26) (v := (0 : Int32)) hx (dc kX12_laysWins_0 15 rfl) (by decide) rfl ?_
        refine j_istore_n (q := 27) (i := 3) (l2 := [(0, vR x.2.2.2 x0), (1, .int x1), (2, .int x2)]) hx (dc kX12_laysWins_0 16 rfl) rfl (hn 3 (by decide)) [0, 1, 2] rfl ⟨⟨show (0 : Nat) ≠ 3 by decide, Or.inl (show (0 : Nat) + 1 ≠ 3 by decide)⟩, ⟨⟨show (1 : Nat) ≠ 3 by decide, Or.inl (show (1 : Nat) + 1 ≠ 3 by decide)⟩, ⟨⟨show (2 : Nat) ≠ 3 by decide, Or.inr rfl⟩, trivial⟩⟩⟩ rfl ?_
        exact j_sub [1, 2, 3, 0] rfl (hb27 x0 x1 x2 (0 : Int32) h6)
    exact j_loop (S := (Int32 × Hp)) (lvf := fun s => [(0, vR x.2.2.2 x0), (1, .int x1), (2, .int s.1)]) (hpf := fun s => s.2) (f := (fun s : (Int32 × Hp) => mX12_laysWins_l11f x0 x1 s.1 s.2)) (fun s => hB s.1 s.2) (x2, h)
  unfold mX12_laysWins
  refine J.ckd fun hck => ?_
  refine j_aload_n (q := 1) hx (dc kX12_laysWins_0 0 rfl) rfl 0 rfl rfl ?_
  refine w_cVIW (q := 4) (As := []) (st := []) hx (dc kX12_laysWins_0 1 rfl) cf12 (by decide) rfl (cI _ my_X12_standing lm_X12_485 (by decide)) vs_X12_standing rfl (fun u hu => sX12_standing _ _ _ _ _ hu) (fun e => ite_ne (by unfold mX12_standing at e; exact e)) (Nat.zero_le _) rfl (fun v1 h2 => ?_)
  refine j_istore_n (q := 5) (i := 1) (l2 := [(0, vR x.2.2.2 x0)]) hx (dc kX12_laysWins_0 2 rfl) rfl (hn 1 (by decide)) [0] rfl ⟨⟨show (0 : Nat) ≠ 1 by decide, Or.inr (vR_cat _ _)⟩, trivial⟩ rfl ?_
  refine j_aload_n (q := 6) hx (dc kX12_laysWins_0 3 rfl) rfl 1 rfl rfl ?_
  refine w_cVVW (q := 9) (As := []) (st := []) hx (dc kX12_laysWins_0 4 rfl) cf12 (by decide) rfl (cI _ my_X12_laysInjuries lm_X12_383 (by decide)) vs_X12_laysInjuries rfl (fun u hu => sX12_laysInjuries _ _ _ _ _ hu) (fun e => ite_ne (by unfold mX12_laysInjuries at e; exact e)) (Nat.zero_le _) rfl (fun h4 => ?_)
  refine j_iconst (q := 10) (v := (0 : Int32)) hx (dc kX12_laysWins_0 5 rfl) (by decide) rfl ?_
  refine j_istore_n (q := 11) (i := 2) (l2 := [(1, .int v1), (0, vR x.2.2.2 x0)]) hx (dc kX12_laysWins_0 6 rfl) rfl (hn 2 (by decide)) [0, 1] rfl ⟨⟨show (1 : Nat) ≠ 2 by decide, Or.inr rfl⟩, ⟨⟨show (0 : Nat) ≠ 2 by decide, Or.inl (show (0 : Nat) + 1 ≠ 2 by decide)⟩, trivial⟩⟩ rfl ?_
  exact j_sub [2, 1, 0] rfl (hb11 x0 v1 (0 : Int32) h4)

set_option maxHeartbeats 4000000 in
set_option maxRecDepth 100000 in
theorem sX12_awardOf (l : Launch) (w : Wd) (x0 : Nat) (x1 : Int32) (h : Hp) (u : Int32) (hK : mX12_awardOf x0 x1 h = some u) : M1 l w mi_X12_awardOf 2 [vR w x0, .int x1] h h (some (.int u)) := by
  refine M1.of (own := RX12) (T := fun _ r => r = u) hK (by decide +kernel) rfl (by first | (simp only [lg_lenR, lg_lenI, lg_lenL, lg_len0]; decide) | decide) (fun x hx hnl hhf hl hw hret hnm hQ h0e => ⟨?_, rfl⟩)
  subst hw
  subst hl
  have hR : Rt x h h (some (.int u)) ((some .int)) := ⟨h0e, hhf, hret, hQ⟩
  have hn : ∀ i, i < 6 → i < x.2.2.1.1.1 := fun i hi => by rw [hnl]; exact hi
  have e0 : lv_args 0 [vR x.2.2.2 x0, .int x1] = [(0, vR x.2.2.2 x0), (1, .int x1)] := by simp only [lv_argsR, lv_argsI, lv_argsL, lv_args0]
  rw [e0]
  have hb4 : ∀ (x0 : Nat) (x1 : Int32) (x2 : Int32) (x3 : Int32), J x 4 [(0, vR x.2.2.2 x0), (1, .int x1), (2, .int x2), (3, .int x3)] [] h (mX12_awardOf_l4 x0 x1 x2 x3 h) (fun r => r = u) := by
    intro x0 x1 x2 x3
    have hB : ∀ (x2 : Int32) (x3 : Int32), J x 4 [(0, vR x.2.2.2 x0), (1, .int x1), (2, .int x2), (3, .int x3)] [] h (mX12_awardOf_l4f x0 x1 h x2 x3) (TL (S := (Int32 × Int32)) x 4 (fun s => [(0, vR x.2.2.2 x0), (1, .int x1), (2, .int s.1), (3, .int s.2)]) [] (fun s => h) (fun r => r = u)) := by
      intro x2 x3
      have hb21 : ∀ (x0 : Nat) (x1 : Int32) (x2 : Int32) (x3 : Int32) (x4 : Int32) (x5 : Int32), J x 21 [(0, vR x.2.2.2 x0), (1, .int x1), (2, .int x2), (3, .int x3), (4, .int x4), (5, .int x5)] [] h (mX12_awardOf_l21 x0 x1 x2 x3 x4 x5 h) (TL (S := (Int32 × Int32)) x 4 (fun s => [(0, vR x.2.2.2 x0), (1, .int x1), (2, .int s.1), (3, .int s.2)]) [] (fun s => h) (fun r => r = u)) := by
        intro x0 x1 x2 x3 x4 x5
        have hB : ∀ (x4 : Int32) (x5 : Int32), J x 21 [(0, vR x.2.2.2 x0), (1, .int x1), (2, .int x2), (3, .int x3), (4, .int x4), (5, .int x5)] [] h (mX12_awardOf_l21f x0 x1 x2 x3 h x4 x5) (TL (S := (Int32 × Int32)) x 21 (fun s => [(0, vR x.2.2.2 x0), (1, .int x1), (2, .int x2), (3, .int x3), (4, .int s.1), (5, .int s.2)]) [] (fun s => h) (TL (S := (Int32 × Int32)) x 4 (fun s => [(0, vR x.2.2.2 x0), (1, .int x1), (2, .int s.1), (3, .int s.2)]) [] (fun s => h) (fun r => r = u))) := by
          intro x4 x5
          have hb75 : ∀ (x0 : Nat) (x1 : Int32) (x2 : Int32) (x3 : Int32) (x5 : Int32) (t0 : Int32), J x 75 [(0, vR x.2.2.2 x0), (1, .int x1), (2, .int x2), (3, .int x3), (5, .int x5)] [.int t0] h (mX12_awardOf_b75 x0 x1 x2 x3 x5 t0 h) (TL (S := (Int32 × Int32)) x 21 (fun s => [(0, vR x.2.2.2 x0), (1, .int x1), (2, .int x2), (3, .int x3), (4, .int s.1), (5, .int s.2)]) [] (fun s => h) (TL (S := (Int32 × Int32)) x 4 (fun s => [(0, vR x.2.2.2 x0), (1, .int x1), (2, .int s.1), (3, .int s.2)]) [] (fun s => h) (fun r => r = u))) := by
            intro x0 x1 x2 x3 x5 t0
            unfold mX12_awardOf_b75
            refine j_istore (q := 77) (i := 4) (l2 := [(0, vR x.2.2.2 x0), (1, .int x1), (2, .int x2), (3, .int x3), (5, .int x5)]) hx (dc kX12_awardOf_0 41 rfl) (hn 4 (by decide)) [0, 1, 2, 3, 4] rfl ⟨⟨show (0 : Nat) ≠ 4 by decide, Or.inl (show (0 : Nat) + 1 ≠ 4 by decide)⟩, ⟨⟨show (1 : Nat) ≠ 4 by decide, Or.inl (show (1 : Nat) + 1 ≠ 4 by decide)⟩, ⟨⟨show (2 : Nat) ≠ 4 by decide, Or.inl (show (2 : Nat) + 1 ≠ 4 by decide)⟩, ⟨⟨show (3 : Nat) ≠ 4 by decide, Or.inr rfl⟩, ⟨⟨show (5 : Nat) ≠ 4 by decide, Or.inl (show (5 : Nat) + 1 ≠ 4 by decide)⟩, trivial⟩⟩⟩⟩⟩ rfl ?_
            refine j_iinc (q := 80) (l2 := [(4, .int t0), (0, vR x.2.2.2 x0), (1, .int x1), (2, .int x2), (3, .int x3)]) hx (dc kX12_awardOf_0 42 rfl) 5 rfl (v := (1 : Int32)) (by decide) (hn 5 (by decide)) [0, 1, 2, 3, 4] rfl ⟨⟨show (4 : Nat) ≠ 5 by decide, Or.inr rfl⟩, ⟨⟨show (0 : Nat) ≠ 5 by decide, Or.inl (show (0 : Nat) + 1 ≠ 5 by decide)⟩, ⟨⟨show (1 : Nat) ≠ 5 by decide, Or.inl (show (1 : Nat) + 1 ≠ 5 by decide)⟩, ⟨⟨show (2 : Nat) ≠ 5 by decide, Or.inl (show (2 : Nat) + 1 ≠ 5 by decide)⟩, ⟨⟨show (3 : Nat) ≠ 5 by decide, Or.inl (show (3 : Nat) + 1 ≠ 5 by decide)⟩, trivial⟩⟩⟩⟩⟩ rfl ?_
            refine j_goto (q := 21) hx (dc kX12_awardOf_0 43 rfl) (by decide) ?_
            exact j_back [2, 3, 4, 5, 1, 0] (t0, (x5 + (1 : Int32))) rfl rfl
          have hb73 : ∀ (x0 : Nat) (x1 : Int32) (x2 : Int32) (x3 : Int32) (x4 : Int32) (x5 : Int32), J x 73 [(0, vR x.2.2.2 x0), (1, .int x1), (2, .int x2), (3, .int x3), (4, .int x4), (5, .int x5)] [] h (mX12_awardOf_b73 x0 x1 x2 x3 x4 x5 h) (TL (S := (Int32 × Int32)) x 21 (fun s => [(0, vR x.2.2.2 x0), (1, .int x1), (2, .int x2), (3, .int x3), (4, .int s.1), (5, .int s.2)]) [] (fun s => h) (TL (S := (Int32 × Int32)) x 4 (fun s => [(0, vR x.2.2.2 x0), (1, .int x1), (2, .int s.1), (3, .int s.2)]) [] (fun s => h) (fun r => r = u))) := by
            intro x0 x1 x2 x3 x4 x5
            unfold mX12_awardOf_b73
            refine j_iload (q := 75) hx (dc kX12_awardOf_0 40 rfl) 4 rfl rfl ?_
            exact j_sub [0, 1, 2, 3, 5] rfl (hb75 x0 x1 x2 x3 x5 x4)
          unfold mX12_awardOf_l21f
          refine j_iload (q := 23) hx (dc kX12_awardOf_0 14 rfl) 5 rfl rfl ?_
          refine j_aload_n (q := 24) hx (dc kX12_awardOf_0 15 rfl) rfl 0 rfl rfl ?_
          refine w_gR (q := 27) hx (dc kX12_awardOf_0 16 rfl) ff_X12_4 lk_X12_23 rfl (fun v3 => ?_)
          refine j_bipush (q := 29) (v := (18 : Int32)) hx (dc kX12_awardOf_0 17 rfl) (by decide) rfl ?_
          refine j_ldI (q := 30) hx (dc kX12_awardOf_0 18 rfl) rfl (fun v4 => ?_)
          refine j_icmp_geS (q := 33) (tgt := 83) hx (dc kX12_awardOf_0 19 rfl) (by decide) rfl ?_ ?_
          · refine j_exit ?_
            refine j_iload_n (q := 84) hx (dc kX12_awardOf_0 44 rfl) rfl 2 rfl rfl ?_
            refine j_iload (q := 86) hx (dc kX12_awardOf_0 45 rfl) 4 rfl rfl ?_
            refine j_iadd (q := 87) hx (dc kX12_awardOf_0 46 rfl) rfl ?_
            refine j_istore_n (q := 88) (i := 2) (l2 := [(0, vR x.2.2.2 x0), (1, .int x1), (3, .int x3)]) hx (dc kX12_awardOf_0 47 rfl) rfl (hn 2 (by decide)) [0, 1, 3] rfl ⟨⟨show (0 : Nat) ≠ 2 by decide, Or.inl (show (0 : Nat) + 1 ≠ 2 by decide)⟩, ⟨⟨show (1 : Nat) ≠ 2 by decide, Or.inr rfl⟩, ⟨⟨show (3 : Nat) ≠ 2 by decide, Or.inl (show (3 : Nat) + 1 ≠ 2 by decide)⟩, trivial⟩⟩⟩ rfl ?_
            refine j_iinc (q := 91) (l2 := [(2, .int (x2 + x4)), (0, vR x.2.2.2 x0), (1, .int x1)]) hx (dc kX12_awardOf_0 48 rfl) 3 rfl (v := (1 : Int32)) (by decide) (hn 3 (by decide)) [0, 1, 2] rfl ⟨⟨show (2 : Nat) ≠ 3 by decide, Or.inr rfl⟩, ⟨⟨show (0 : Nat) ≠ 3 by decide, Or.inl (show (0 : Nat) + 1 ≠ 3 by decide)⟩, ⟨⟨show (1 : Nat) ≠ 3 by decide, Or.inl (show (1 : Nat) + 1 ≠ 3 by decide)⟩, trivial⟩⟩⟩ rfl ?_
            refine j_goto (q := 4) hx (dc kX12_awardOf_0 49 rfl) (by decide) ?_
            exact j_back [2, 3, 1, 0] ((x2 + x4), (x3 + (1 : Int32))) rfl rfl
          · refine j_aload_n (q := 34) hx (dc kX12_awardOf_0 20 rfl) rfl 0 rfl rfl ?_
            refine w_gR (q := 37) hx (dc kX12_awardOf_0 21 rfl) ff_X12_38 lk_X12_76 rfl (fun v5 => ?_)
            refine j_iload_n (q := 38) hx (dc kX12_awardOf_0 22 rfl) rfl 1 rfl rfl ?_
            refine j_ldI (q := 39) hx (dc kX12_awardOf_0 23 rfl) rfl (fun v6 => ?_)
            refine j_iload (q := 41) hx (dc kX12_awardOf_0 24 rfl) 5 rfl rfl ?_
            refine w_cSIR (q := 44) (As := [.int v6, .int x5]) (st := []) hx (dc kX12_awardOf_0 25 rfl) (cI _ my_X12_has lm_X12_239 (by decide)) st_X12_has rfl (fun u hu => sX12_has _ _ _ _ _ _ hu) (Nat.zero_le _) rfl (fun v7 => ?_)
            refine j_if_eq (q := 47) (tgt := 73) hx (dc kX12_awardOf_0 26 rfl) (by decide) Iff.rfl rfl ?_ ?_
            · exact hb73 x0 x1 x2 x3 x4 x5
            · refine j_aload_n (q := 48) hx (dc kX12_awardOf_0 27 rfl) rfl 0 rfl rfl ?_
              refine w_gR (q := 51) hx (dc kX12_awardOf_0 28 rfl) ff_X12_30 lk_X12_64 rfl (fun v9 => ?_)
              refine j_iload (q := 53) hx (dc kX12_awardOf_0 29 rfl) 5 rfl rfl ?_
              refine j_ldI (q := 54) hx (dc kX12_awardOf_0 30 rfl) rfl (fun v10 => ?_)
              refine j_iload_n (q := 55) hx (dc kX12_awardOf_0 31 rfl) rfl 3 rfl rfl ?_
              refine j_icmp_neS (q := 58) (tgt := 73) hx (dc kX12_awardOf_0 32 rfl) (by decide) rfl ?_ ?_
              · exact hb73 x0 x1 x2 x3 x4 x5
              · refine j_iload (q := 60) hx (dc kX12_awardOf_0 33 rfl) 4 rfl rfl ?_
                refine j_aload_n (q := 61) hx (dc kX12_awardOf_0 34 rfl) rfl 0 rfl rfl ?_
                refine j_iload (q := 63) hx (dc kX12_awardOf_0 35 rfl) 5 rfl rfl ?_
                refine j_iconst (q := 64) (v := (2 : Int32)) hx (dc kX12_awardOf_0 36 rfl) (by decide) rfl ?_
                refine w_cVIR (q := 67) (As := [.int x5, .int (2 : Int32)]) (st := [.int x4]) hx (dc kX12_awardOf_0 37 rfl) cf12 (by decide) rfl (cI _ my_X12_its lm_X12_339 (by decide)) vs_X12_its rfl (fun u hu => sX12_its _ _ _ _ _ _ _ hu) (fun e => ite_ne (by unfold mX12_its at e; exact e)) (sum_le (sum_I sum_nil) (by decide)) rfl (fun v11 => ?_)
                refine w_mmax (q := 70) hx (dc kX12_awardOf_0 38 rfl) lm_X12_444 ms_mmax ms_init mc_mmax (by decide) (Nat.zero_le _) rfl ?_
                refine j_goto (q := 75) hx (dc kX12_awardOf_0 39 rfl) (by decide) ?_
                exact j_sub [0, 1, 2, 3, 5] rfl (hb75 x0 x1 x2 x3 x5 (mmax x4 v11))
        exact j_loop (S := (Int32 × Int32)) (lvf := fun s => [(0, vR x.2.2.2 x0), (1, .int x1), (2, .int x2), (3, .int x3), (4, .int s.1), (5, .int s.2)]) (hpf := fun s => h) (f := (fun s : (Int32 × Int32) => mX12_awardOf_l21f x0 x1 x2 x3 h s.1 s.2)) (fun s => hB s.1 s.2) (x4, x5)
      unfold mX12_awardOf_l4f
      refine j_iload_n (q := 5) hx (dc kX12_awardOf_0 4 rfl) rfl 3 rfl rfl ?_
      refine j_aload_n (q := 6) hx (dc kX12_awardOf_0 5 rfl) rfl 0 rfl rfl ?_
      refine w_gR (q := 9) hx (dc kX12_awardOf_0 6 rfl) ff_X12_4 lk_X12_23 rfl (fun v1 => ?_)
      refine j_bipush (q := 11) (v := (18 : Int32)) hx (dc kX12_awardOf_0 7 rfl) (by decide) rfl ?_
      refine j_ldI (q := 12) hx (dc kX12_awardOf_0 8 rfl) rfl (fun v2 => ?_)
      refine j_icmp_geS (q := 15) (tgt := 94) hx (dc kX12_awardOf_0 9 rfl) (by decide) rfl ?_ ?_
      · refine j_exit ?_
        refine j_iload_n (q := 95) hx (dc kX12_awardOf_0 50 rfl) rfl 2 rfl rfl ?_
        exact r_iR hx hR (dc kX12_awardOf_0 51 rfl)
      · refine j_iconst (q := 16) (v := (0 : Int32)) hx (dc kX12_awardOf_0 10 rfl) (by decide) rfl ?_
        refine j_istore (q := 18) (i := 4) (l2 := [(0, vR x.2.2.2 x0), (1, .int x1), (2, .int x2), (3, .int x3)]) hx (dc kX12_awardOf_0 11 rfl) (hn 4 (by decide)) [0, 1, 2, 3] rfl ⟨⟨show (0 : Nat) ≠ 4 by decide, Or.inl (show (0 : Nat) + 1 ≠ 4 by decide)⟩, ⟨⟨show (1 : Nat) ≠ 4 by decide, Or.inl (show (1 : Nat) + 1 ≠ 4 by decide)⟩, ⟨⟨show (2 : Nat) ≠ 4 by decide, Or.inl (show (2 : Nat) + 1 ≠ 4 by decide)⟩, ⟨⟨show (3 : Nat) ≠ 4 by decide, Or.inr rfl⟩, trivial⟩⟩⟩⟩ rfl ?_
        refine j_iconst (q := 19) (v := (0 : Int32)) hx (dc kX12_awardOf_0 12 rfl) (by decide) rfl ?_
        refine j_istore (q := 21) (i := 5) (l2 := [(4, .int (0 : Int32)), (0, vR x.2.2.2 x0), (1, .int x1), (2, .int x2), (3, .int x3)]) hx (dc kX12_awardOf_0 13 rfl) (hn 5 (by decide)) [0, 1, 2, 3, 4] rfl ⟨⟨show (4 : Nat) ≠ 5 by decide, Or.inr rfl⟩, ⟨⟨show (0 : Nat) ≠ 5 by decide, Or.inl (show (0 : Nat) + 1 ≠ 5 by decide)⟩, ⟨⟨show (1 : Nat) ≠ 5 by decide, Or.inl (show (1 : Nat) + 1 ≠ 5 by decide)⟩, ⟨⟨show (2 : Nat) ≠ 5 by decide, Or.inl (show (2 : Nat) + 1 ≠ 5 by decide)⟩, ⟨⟨show (3 : Nat) ≠ 5 by decide, Or.inl (show (3 : Nat) + 1 ≠ 5 by decide)⟩, trivial⟩⟩⟩⟩⟩ rfl ?_
        exact j_sub [2, 3, 4, 5, 1, 0] rfl (hb21 x0 x1 x2 x3 (0 : Int32) (0 : Int32))
    exact j_loop (S := (Int32 × Int32)) (lvf := fun s => [(0, vR x.2.2.2 x0), (1, .int x1), (2, .int s.1), (3, .int s.2)]) (hpf := fun s => h) (f := (fun s : (Int32 × Int32) => mX12_awardOf_l4f x0 x1 h s.1 s.2)) (fun s => hB s.1 s.2) (x2, x3)
  unfold mX12_awardOf
  refine J.ckd fun hck => ?_
  refine j_iconst (q := 1) (v := (0 : Int32)) hx (dc kX12_awardOf_0 0 rfl) (by decide) rfl ?_
  refine j_istore_n (q := 2) (i := 2) (l2 := [(0, vR x.2.2.2 x0), (1, .int x1)]) hx (dc kX12_awardOf_0 1 rfl) rfl (hn 2 (by decide)) [0, 1] rfl ⟨⟨show (0 : Nat) ≠ 2 by decide, Or.inl (show (0 : Nat) + 1 ≠ 2 by decide)⟩, ⟨⟨show (1 : Nat) ≠ 2 by decide, Or.inr rfl⟩, trivial⟩⟩ rfl ?_
  refine j_iconst (q := 3) (v := (0 : Int32)) hx (dc kX12_awardOf_0 2 rfl) (by decide) rfl ?_
  refine j_istore_n (q := 4) (i := 3) (l2 := [(2, .int (0 : Int32)), (0, vR x.2.2.2 x0), (1, .int x1)]) hx (dc kX12_awardOf_0 3 rfl) rfl (hn 3 (by decide)) [0, 1, 2] rfl ⟨⟨show (2 : Nat) ≠ 3 by decide, Or.inr rfl⟩, ⟨⟨show (0 : Nat) ≠ 3 by decide, Or.inl (show (0 : Nat) + 1 ≠ 3 by decide)⟩, ⟨⟨show (1 : Nat) ≠ 3 by decide, Or.inl (show (1 : Nat) + 1 ≠ 3 by decide)⟩, trivial⟩⟩⟩ rfl ?_
  exact j_sub [2, 3, 1, 0] rfl (hb4 x0 x1 (0 : Int32) (0 : Int32))

set_option maxHeartbeats 4000000 in
set_option maxRecDepth 100000 in
theorem sX12_award (l : Launch) (w : Wd) (x0 : Nat) (x1 : Int32) (h : Hp) (u : (Int32 × Hp)) (hK : mX12_award x0 x1 h = some u) : M1 l w mi_X12_award 8 [vR w x0, .int x1] h u.2 (some (.int u.1)) := by
  refine M1.of (own := RX12) (T := fun _ r => r = u) hK (by decide +kernel) rfl (by first | (simp only [lg_lenR, lg_lenI, lg_lenL, lg_len0]; decide) | decide) (fun x hx hnl hhf hl hw hret hnm hQ h0e => ⟨?_, rfl⟩)
  subst hw
  subst hl
  have hR : Rt x h u.2 (some (.int u.1)) ((some .int)) := ⟨h0e, hhf, hret, hQ⟩
  have hn : ∀ i, i < 7 → i < x.2.2.1.1.1 := fun i hi => by rw [hnl]; exact hi
  have e0 : lv_args 0 [vR x.2.2.2 x0, .int x1] = [(0, vR x.2.2.2 x0), (1, .int x1)] := by simp only [lv_argsR, lv_argsI, lv_argsL, lv_args0]
  rw [e0]
  have hb25 : ∀ (x0 : Nat) (x1 : Int32) (x2 : Int32) (x3 : Int32) (x4 : Int32) (x5 : Int32) (h : Hp), J x 25 [(0, vR x.2.2.2 x0), (1, .int x1), (2, .int x2), (3, .int x3), (4, .int x4), (5, .int x5)] [] h (mX12_award_l25 x0 x1 x2 x3 x4 x5 h) (fun r => r = u) := by
    intro x0 x1 x2 x3 x4 x5 h
    have hB : ∀ (x2 : Int32) (x3 : Int32) (x4 : Int32) (x5 : Int32), J x 25 [(0, vR x.2.2.2 x0), (1, .int x1), (2, .int x2), (3, .int x3), (4, .int x4), (5, .int x5)] [] h (mX12_award_l25f x0 x1 h x2 x3 x4 x5) (TL (S := (Int32 × Int32 × Int32 × Int32)) x 25 (fun s => [(0, vR x.2.2.2 x0), (1, .int x1), (2, .int s.1), (3, .int s.2.1), (4, .int s.2.2.1), (5, .int s.2.2.2)]) [] (fun s => h) (fun r => r = u)) := by
      intro x2 x3 x4 x5
      have hb91 : ∀ (x0 : Nat) (x1 : Int32) (x2 : Int32) (x3 : Int32) (x5 : Int32) (x6 : Int32) (t0 : Int32) (h : Hp), J x 91 [(0, vR x.2.2.2 x0), (1, .int x1), (2, .int x2), (3, .int x3), (5, .int x5), (6, .int x6)] [.int t0] h (mX12_award_b91 x0 x1 x2 x3 x5 x6 t0 h) (TL (S := (Int32 × Int32 × Int32 × Int32)) x 25 (fun s => [(0, vR x.2.2.2 x0), (1, .int x1), (2, .int s.1), (3, .int s.2.1), (4, .int s.2.2.1), (5, .int s.2.2.2)]) [] (fun s => h) (fun r => r = u)) := by
        intro x0 x1 x2 x3 x5 x6 t0 h
        unfold mX12_award_b91
        refine j_istore (q := 93) (i := 4) (l2 := [(0, vR x.2.2.2 x0), (1, .int x1), (2, .int x2), (3, .int x3), (5, .int x5), (6, .int x6)]) hx (dc kX12_award_0 49 rfl) (hn 4 (by decide)) [0, 1, 2, 3, 4, 5] rfl ⟨⟨show (0 : Nat) ≠ 4 by decide, Or.inl (show (0 : Nat) + 1 ≠ 4 by decide)⟩, ⟨⟨show (1 : Nat) ≠ 4 by decide, Or.inl (show (1 : Nat) + 1 ≠ 4 by decide)⟩, ⟨⟨show (2 : Nat) ≠ 4 by decide, Or.inl (show (2 : Nat) + 1 ≠ 4 by decide)⟩, ⟨⟨show (3 : Nat) ≠ 4 by decide, Or.inr rfl⟩, ⟨⟨show (5 : Nat) ≠ 4 by decide, Or.inl (show (5 : Nat) + 1 ≠ 4 by decide)⟩, ⟨⟨show (6 : Nat) ≠ 4 by decide, Or.inl (show (6 : Nat) + 1 ≠ 4 by decide)⟩, trivial⟩⟩⟩⟩⟩⟩ rfl ?_
        refine j_iload_n (q := 94) hx (dc kX12_award_0 50 rfl) rfl 4 rfl rfl ?_
        refine j_iload (q := 96) hx (dc kX12_award_0 51 rfl) 6 rfl rfl ?_
        refine w_mmax (q := 99) hx (dc kX12_award_0 52 rfl) lm_X12_444 ms_mmax ms_init mc_mmax (by decide) (Nat.zero_le _) rfl ?_
        refine j_istore_n (q := 100) (i := 3) (l2 := [(4, .int t0), (0, vR x.2.2.2 x0), (1, .int x1), (2, .int x2), (5, .int x5)]) hx (dc kX12_award_0 53 rfl) rfl (hn 3 (by decide)) [0, 1, 2, 3, 5] rfl ⟨⟨show (4 : Nat) ≠ 3 by decide, Or.inl (show (4 : Nat) + 1 ≠ 3 by decide)⟩, ⟨⟨show (0 : Nat) ≠ 3 by decide, Or.inl (show (0 : Nat) + 1 ≠ 3 by decide)⟩, ⟨⟨show (1 : Nat) ≠ 3 by decide, Or.inl (show (1 : Nat) + 1 ≠ 3 by decide)⟩, ⟨⟨show (2 : Nat) ≠ 3 by decide, Or.inr rfl⟩, ⟨⟨show (5 : Nat) ≠ 3 by decide, Or.inl (show (5 : Nat) + 1 ≠ 3 by decide)⟩, trivial⟩⟩⟩⟩⟩ rfl ?_
        refine j_iinc (q := 103) (l2 := [(3, .int (mmax x3 x6)), (4, .int t0), (0, vR x.2.2.2 x0), (1, .int x1), (2, .int x2)]) hx (dc kX12_award_0 54 rfl) 5 rfl (v := (1 : Int32)) (by decide) (hn 5 (by decide)) [0, 1, 2, 3, 4] rfl ⟨⟨show (3 : Nat) ≠ 5 by decide, Or.inl (show (3 : Nat) + 1 ≠ 5 by decide)⟩, ⟨⟨show (4 : Nat) ≠ 5 by decide, Or.inr rfl⟩, ⟨⟨show (0 : Nat) ≠ 5 by decide, Or.inl (show (0 : Nat) + 1 ≠ 5 by decide)⟩, ⟨⟨show (1 : Nat) ≠ 5 by decide, Or.inl (show (1 : Nat) + 1 ≠ 5 by decide)⟩, ⟨⟨show (2 : Nat) ≠ 5 by decide, Or.inl (show (2 : Nat) + 1 ≠ 5 by decide)⟩, trivial⟩⟩⟩⟩⟩ rfl ?_
        refine j_goto (q := 25) hx (dc kX12_award_0 55 rfl) (by decide) ?_
        exact j_back [3, 4, 5, 1, 2, 0] (x2, (mmax x3 x6), t0, (x5 + (1 : Int32))) rfl rfl
      have hb77 : ∀ (x0 : Nat) (x1 : Int32) (x3 : Int32) (x4 : Int32) (x5 : Int32) (x6 : Int32) (t0 : Int32) (h : Hp), J x 77 [(0, vR x.2.2.2 x0), (1, .int x1), (3, .int x3), (4, .int x4), (5, .int x5), (6, .int x6)] [.int t0] h (mX12_award_b77 x0 x1 x3 x4 x5 x6 t0 h) (TL (S := (Int32 × Int32 × Int32 × Int32)) x 25 (fun s => [(0, vR x.2.2.2 x0), (1, .int x1), (2, .int s.1), (3, .int s.2.1), (4, .int s.2.2.1), (5, .int s.2.2.2)]) [] (fun s => h) (fun r => r = u)) := by
        intro x0 x1 x3 x4 x5 x6 t0 h
        unfold mX12_award_b77
        refine j_istore_n (q := 78) (i := 2) (l2 := [(0, vR x.2.2.2 x0), (1, .int x1), (3, .int x3), (4, .int x4), (5, .int x5), (6, .int x6)]) hx (dc kX12_award_0 42 rfl) rfl (hn 2 (by decide)) [0, 1, 2, 3, 4, 5] rfl ⟨⟨show (0 : Nat) ≠ 2 by decide, Or.inl (show (0 : Nat) + 1 ≠ 2 by decide)⟩, ⟨⟨show (1 : Nat) ≠ 2 by decide, Or.inr rfl⟩, ⟨⟨show (3 : Nat) ≠ 2 by decide, Or.inl (show (3 : Nat) + 1 ≠ 2 by decide)⟩, ⟨⟨show (4 : Nat) ≠ 2 by decide, Or.inl (show (4 : Nat) + 1 ≠ 2 by decide)⟩, ⟨⟨show (5 : Nat) ≠ 2 by decide, Or.inl (show (5 : Nat) + 1 ≠ 2 by decide)⟩, ⟨⟨show (6 : Nat) ≠ 2 by decide, Or.inl (show (6 : Nat) + 1 ≠ 2 by decide)⟩, trivial⟩⟩⟩⟩⟩⟩ rfl ?_
        refine j_iload (q := 80) hx (dc kX12_award_0 43 rfl) 6 rfl rfl ?_
        refine j_iload_n (q := 81) hx (dc kX12_award_0 44 rfl) rfl 3 rfl rfl ?_
        refine j_icmp_leS (q := 84) (tgt := 89) hx (dc kX12_award_0 45 rfl) (by decide) rfl ?_ ?_
        · refine j_iload (q := 91) hx (dc kX12_award_0 48 rfl) 4 rfl rfl ?_
          exact j_sub [1, 2, 0, 3, 5, 6] rfl (hb91 x0 x1 t0 x3 x5 x6 x4 h)
        · refine j_iload (q := 86) hx (dc kX12_award_0 46 rfl) 5 rfl rfl ?_
          refine j_goto (q := 91) hx (dc kX12_award_0 47 rfl) (by decide) ?_
          exact j_sub [1, 2, 0, 3, 5, 6] rfl (hb91 x0 x1 t0 x3 x5 x6 x5 h)
      have hb76 : ∀ (x0 : Nat) (x1 : Int32) (x2 : Int32) (x3 : Int32) (x4 : Int32) (x5 : Int32) (x6 : Int32) (h : Hp), J x 76 [(0, vR x.2.2.2 x0), (1, .int x1), (2, .int x2), (3, .int x3), (4, .int x4), (5, .int x5), (6, .int x6)] [] h (mX12_award_b76 x0 x1 x2 x3 x4 x5 x6 h) (TL (S := (Int32 × Int32 × Int32 × Int32)) x 25 (fun s => [(0, vR x.2.2.2 x0), (1, .int x1), (2, .int s.1), (3, .int s.2.1), (4, .int s.2.2.1), (5, .int s.2.2.2)]) [] (fun s => h) (fun r => r = u)) := by
        intro x0 x1 x2 x3 x4 x5 x6 h
        unfold mX12_award_b76
        refine j_iload_n (q := 77) hx (dc kX12_award_0 41 rfl) rfl 2 rfl rfl ?_
        exact j_sub [0, 1, 3, 4, 5, 6] rfl (hb77 x0 x1 x3 x4 x5 x6 x2 h)
      have hb71 : ∀ (x0 : Nat) (x1 : Int32) (x3 : Int32) (x4 : Int32) (x5 : Int32) (x6 : Int32) (h : Hp), J x 71 [(0, vR x.2.2.2 x0), (1, .int x1), (3, .int x3), (4, .int x4), (5, .int x5), (6, .int x6)] [] h (mX12_award_b71 x0 x1 x3 x4 x5 x6 h) (TL (S := (Int32 × Int32 × Int32 × Int32)) x 25 (fun s => [(0, vR x.2.2.2 x0), (1, .int x1), (2, .int s.1), (3, .int s.2.1), (4, .int s.2.2.1), (5, .int s.2.2.2)]) [] (fun s => h) (fun r => r = u)) := by
        intro x0 x1 x3 x4 x5 x6 h
        unfold mX12_award_b71
        refine j_iload (q := 73) hx (dc kX12_award_0 39 rfl) 5 rfl rfl ?_
        refine j_goto (q := 77) hx (dc kX12_award_0 40 rfl) (by decide) ?_
        exact hb77 x0 x1 x3 x4 x5 x6 x6 h
      have hb52 : ∀ (x0 : Nat) (x1 : Int32) (x2 : Int32) (x3 : Int32) (x4 : Int32) (x5 : Int32) (t0 : Int32) (h : Hp), J x 52 [(0, vR x.2.2.2 x0), (1, .int x1), (2, .int x2), (3, .int x3), (4, .int x4), (5, .int x5)] [.int t0] h (mX12_award_b52 x0 x1 x2 x3 x4 x5 t0 h) (TL (S := (Int32 × Int32 × Int32 × Int32)) x 25 (fun s => [(0, vR x.2.2.2 x0), (1, .int x1), (2, .int s.1), (3, .int s.2.1), (4, .int s.2.2.1), (5, .int s.2.2.2)]) [] (fun s => h) (fun r => r = u)) := by
        intro x0 x1 x2 x3 x4 x5 t0 h
        unfold mX12_award_b52
        refine j_istore (q := 54) (i := 6) (l2 := [(0, vR x.2.2.2 x0), (1, .int x1), (2, .int x2), (3, .int x3), (4, .int x4), (5, .int x5)]) hx (dc kX12_award_0 29 rfl) (hn 6 (by decide)) [0, 1, 2, 3, 4, 5] rfl ⟨⟨show (0 : Nat) ≠ 6 by decide, Or.inl (show (0 : Nat) + 1 ≠ 6 by decide)⟩, ⟨⟨show (1 : Nat) ≠ 6 by decide, Or.inl (show (1 : Nat) + 1 ≠ 6 by decide)⟩, ⟨⟨show (2 : Nat) ≠ 6 by decide, Or.inl (show (2 : Nat) + 1 ≠ 6 by decide)⟩, ⟨⟨show (3 : Nat) ≠ 6 by decide, Or.inl (show (3 : Nat) + 1 ≠ 6 by decide)⟩, ⟨⟨show (4 : Nat) ≠ 6 by decide, Or.inl (show (4 : Nat) + 1 ≠ 6 by decide)⟩, ⟨⟨show (5 : Nat) ≠ 6 by decide, Or.inr rfl⟩, trivial⟩⟩⟩⟩⟩⟩ rfl ?_
        refine j_iload (q := 56) hx (dc kX12_award_0 30 rfl) 0 rfl rfl ?_
        refine j_iconst (q := 57) (v := (-1 : Int32)) hx (dc kX12_award_0 31 rfl) (by decide) rfl ?_
        refine j_icmp_eq (q := 60) (tgt := 76) hx (dc kX12_award_0 32 rfl) (by decide) Iff.rfl rfl ?_ ?_
        · exact j_sub [1, 2, 3, 4, 5, 6, 0] rfl (hb76 x0 x1 x2 x3 x4 x5 t0 h)
        · refine j_iload_n (q := 61) hx (dc kX12_award_0 33 rfl) rfl 3 rfl rfl ?_
          refine j_iconst (q := 62) (v := (-1 : Int32)) hx (dc kX12_award_0 34 rfl) (by decide) rfl ?_
          refine j_icmp_eq (q := 65) (tgt := 71) hx (dc kX12_award_0 35 rfl) (by decide) Iff.rfl rfl ?_ ?_
          · exact j_sub [1, 2, 4, 5, 6, 0] rfl (hb71 x0 x1 x3 x4 x5 t0 h)
          · refine j_iload (q := 67) hx (dc kX12_award_0 36 rfl) 0 rfl rfl ?_
            refine j_iload_n (q := 68) hx (dc kX12_award_0 37 rfl) rfl 3 rfl rfl ?_
            refine j_icmp_geS (q := 71) (tgt := 76) hx (dc kX12_award_0 38 rfl) (by decide) rfl ?_ ?_
            · exact j_sub [1, 2, 3, 4, 5, 6, 0] rfl (hb76 x0 x1 x2 x3 x4 x5 t0 h)
            · exact j_sub [1, 2, 4, 5, 6, 0] rfl (hb71 x0 x1 x3 x4 x5 t0 h)
      unfold mX12_award_l25f
      refine j_iload (q := 27) hx (dc kX12_award_0 17 rfl) 5 rfl rfl ?_
      refine j_sipush (q := 30) (v := (256 : Int32)) hx (dc kX12_award_0 18 rfl) (by decide) rfl ?_
      refine j_icmp_geS (q := 33) (tgt := 106) hx (dc kX12_award_0 19 rfl) (by decide) rfl ?_ ?_
      · refine j_exit ?_
        refine j_iload_n (q := 107) hx (dc kX12_award_0 56 rfl) rfl 1 rfl rfl ?_
        refine j_if_neS (q := 110) (tgt := 114) hx (dc kX12_award_0 57 rfl) (by decide) rfl ?_ ?_
        · refine j_iload_n (q := 115) hx (dc kX12_award_0 60 rfl) rfl 1 rfl rfl ?_
          refine j_iconst (q := 116) (v := (1 : Int32)) hx (dc kX12_award_0 61 rfl) (by decide) rfl ?_
          refine j_icmp_neS (q := 119) (tgt := 123) hx (dc kX12_award_0 62 rfl) (by decide) rfl ?_ ?_
          · refine j_iload (q := 125) hx (dc kX12_award_1 1 rfl) 4 rfl rfl ?_
            exact r_iW hx hR (dc kX12_award_1 2 rfl)
          · refine j_iload_n (q := 120) hx (dc kX12_award_0 63 rfl) rfl 3 rfl rfl ?_
            refine j_goto (q := 125) hx (dc kX12_award_1 0 rfl) (by decide) ?_
            exact r_iW hx hR (dc kX12_award_1 2 rfl)
        · refine j_iload_n (q := 111) hx (dc kX12_award_0 58 rfl) rfl 2 rfl rfl ?_
          refine j_goto (q := 125) hx (dc kX12_award_0 59 rfl) (by decide) ?_
          exact r_iW hx hR (dc kX12_award_1 2 rfl)
      · refine j_aload_n (q := 34) hx (dc kX12_award_0 20 rfl) rfl 0 rfl rfl ?_
        refine j_iload (q := 36) hx (dc kX12_award_0 21 rfl) 5 rfl rfl ?_
        refine w_cVIR (q := 39) (As := [.int x5]) (st := []) hx (dc kX12_award_0 22 rfl) cf12 (by decide) rfl (cI _ my_X12_isLeft lm_X12_398 (by decide)) vs_X12_isLeft rfl (fun u hu => sX12_isLeft _ _ _ _ _ _ hu) (fun e => ite_ne (by unfold mX12_isLeft at e; exact e)) (Nat.zero_le _) rfl (fun v5 => ?_)
        refine j_if_eq (q := 42) (tgt := 51) hx (dc kX12_award_0 23 rfl) (by decide) Iff.rfl rfl ?_ ?_
        · refine j_iconst (q := 52) (v := (-1 : Int32)) hx (dc kX12_award_0 28 rfl) (by decide) rfl ?_
          exact hb52 x0 x1 x2 x3 x4 x5 (-1 : Int32) h
        · refine j_aload_n (q := 43) hx (dc kX12_award_0 24 rfl) rfl 0 rfl rfl ?_
          refine j_iload (q := 45) hx (dc kX12_award_0 25 rfl) 5 rfl rfl ?_
          refine w_cVIR (q := 48) (As := [.int x5]) (st := []) hx (dc kX12_award_0 26 rfl) cf12 (by decide) rfl (cI _ my_X12_awardOf lm_X12_491 (by decide)) vs_X12_awardOf rfl (fun u hu => sX12_awardOf _ _ _ _ _ _ hu) (fun e => ite_ne (by unfold mX12_awardOf at e; exact e)) (Nat.zero_le _) rfl (fun v7 => ?_)
          refine j_goto (q := 52) hx (dc kX12_award_0 27 rfl) (by decide) ?_
          exact hb52 x0 x1 x2 x3 x4 x5 v7 h
    exact j_loop (S := (Int32 × Int32 × Int32 × Int32)) (lvf := fun s => [(0, vR x.2.2.2 x0), (1, .int x1), (2, .int s.1), (3, .int s.2.1), (4, .int s.2.2.1), (5, .int s.2.2.2)]) (hpf := fun s => h) (f := (fun s : (Int32 × Int32 × Int32 × Int32) => mX12_award_l25f x0 x1 h s.1 s.2.1 s.2.2.1 s.2.2.2)) (fun s => hB s.1 s.2.1 s.2.2.1 s.2.2.2) (x2, x3, x4, x5)
  unfold mX12_award
  refine J.ckd fun hck => ?_
  refine j_iload_n (q := 1) hx (dc kX12_award_0 0 rfl) rfl 1 rfl rfl ?_
  refine j_iconst (q := 2) (v := (0 : Int32)) hx (dc kX12_award_0 1 rfl) (by decide) rfl ?_
  refine j_iconst (q := 3) (v := (2 : Int32)) hx (dc kX12_award_0 2 rfl) (by decide) rfl ?_
  refine w_cSIR (q := 6) (As := [.int x1, .int (0 : Int32), .int (2 : Int32)]) (st := []) hx (dc kX12_award_0 3 rfl) (cI _ my_X12_in lm_X12_85 (by decide)) st_X12_in rfl (fun u hu => sX12_in _ _ _ _ _ _ _ hu) (Nat.zero_le _) rfl (fun v1 => ?_)
  refine j_if_neS (q := 9) (tgt := 11) hx (dc kX12_award_0 4 rfl) (by decide) rfl ?_ ?_
  · refine j_aload_n (q := 12) hx (dc kX12_award_0 7 rfl) rfl 0 rfl rfl ?_
    refine w_cVVW (q := 15) (As := []) (st := []) hx (dc kX12_award_0 8 rfl) cf12 (by decide) rfl (cI _ my_X12_laysWins lm_X12_488 (by decide)) vs_X12_laysWins rfl (fun u hu => sX12_laysWins _ _ _ _ _ hu) (fun e => ite_ne (by unfold mX12_laysWins at e; exact e)) (Nat.zero_le _) rfl (fun h4 => ?_)
    refine j_iconst (q := 16) (v := (-1 : Int32)) hx (dc kX12_award_0 9 rfl) (by decide) rfl ?_
    refine j_istore_n (q := 17) (i := 2) (l2 := [(0, vR x.2.2.2 x0), (1, .int x1)]) hx (dc kX12_award_0 10 rfl) rfl (hn 2 (by decide)) [0, 1] rfl ⟨⟨show (0 : Nat) ≠ 2 by decide, Or.inl (show (0 : Nat) + 1 ≠ 2 by decide)⟩, ⟨⟨show (1 : Nat) ≠ 2 by decide, Or.inr rfl⟩, trivial⟩⟩ rfl ?_
    refine j_iconst (q := 18) (v := (-1 : Int32)) hx (dc kX12_award_0 11 rfl) (by decide) rfl ?_
    refine j_istore_n (q := 19) (i := 3) (l2 := [(2, .int (-1 : Int32)), (0, vR x.2.2.2 x0), (1, .int x1)]) hx (dc kX12_award_0 12 rfl) rfl (hn 3 (by decide)) [0, 1, 2] rfl ⟨⟨show (2 : Nat) ≠ 3 by decide, Or.inr rfl⟩, ⟨⟨show (0 : Nat) ≠ 3 by decide, Or.inl (show (0 : Nat) + 1 ≠ 3 by decide)⟩, ⟨⟨show (1 : Nat) ≠ 3 by decide, Or.inl (show (1 : Nat) + 1 ≠ 3 by decide)⟩, trivial⟩⟩⟩ rfl ?_
    refine j_iconst (q := 20) (v := (0 : Int32)) hx (dc kX12_award_0 13 rfl) (by decide) rfl ?_
    refine j_istore (q := 22) (i := 4) (l2 := [(3, .int (-1 : Int32)), (2, .int (-1 : Int32)), (0, vR x.2.2.2 x0), (1, .int x1)]) hx (dc kX12_award_0 14 rfl) (hn 4 (by decide)) [0, 1, 2, 3] rfl ⟨⟨show (3 : Nat) ≠ 4 by decide, Or.inr rfl⟩, ⟨⟨show (2 : Nat) ≠ 4 by decide, Or.inl (show (2 : Nat) + 1 ≠ 4 by decide)⟩, ⟨⟨show (0 : Nat) ≠ 4 by decide, Or.inl (show (0 : Nat) + 1 ≠ 4 by decide)⟩, ⟨⟨show (1 : Nat) ≠ 4 by decide, Or.inl (show (1 : Nat) + 1 ≠ 4 by decide)⟩, trivial⟩⟩⟩⟩ rfl ?_
    refine j_iconst (q := 23) (v := (0 : Int32)) hx (dc kX12_award_0 15 rfl) (by decide) rfl ?_
    refine j_istore (q := 25) (i := 5) (l2 := [(4, .int (0 : Int32)), (3, .int (-1 : Int32)), (2, .int (-1 : Int32)), (0, vR x.2.2.2 x0), (1, .int x1)]) hx (dc kX12_award_0 16 rfl) (hn 5 (by decide)) [0, 1, 2, 3, 4] rfl ⟨⟨show (4 : Nat) ≠ 5 by decide, Or.inr rfl⟩, ⟨⟨show (3 : Nat) ≠ 5 by decide, Or.inl (show (3 : Nat) + 1 ≠ 5 by decide)⟩, ⟨⟨show (2 : Nat) ≠ 5 by decide, Or.inl (show (2 : Nat) + 1 ≠ 5 by decide)⟩, ⟨⟨show (0 : Nat) ≠ 5 by decide, Or.inl (show (0 : Nat) + 1 ≠ 5 by decide)⟩, ⟨⟨show (1 : Nat) ≠ 5 by decide, Or.inl (show (1 : Nat) + 1 ≠ 5 by decide)⟩, trivial⟩⟩⟩⟩⟩ rfl ?_
    exact j_sub [4, 5, 3, 2, 1, 0] rfl (hb25 x0 x1 (-1 : Int32) (-1 : Int32) (0 : Int32) (0 : Int32) h4)
  · refine j_iconst (q := 10) (v := (-1 : Int32)) hx (dc kX12_award_0 5 rfl) (by decide) rfl ?_
    exact r_iW hx hR (dc kX12_award_0 6 rfl)

set_option maxHeartbeats 4000000 in
set_option maxRecDepth 100000 in
theorem sX12_meant (l : Launch) (w : Wd) (x0 : Nat) (x1 : Int32) (h : Hp) (u : (Int64 × Hp)) (hK : mX12_meant x0 x1 h = some u) : M1 l w mi_X12_meant 8 [vR w x0, .int x1] h u.2 (some (.long u.1)) := by
  refine M1.of (own := RX12) (T := fun _ r => r = u) hK (by decide +kernel) rfl (by first | (simp only [lg_lenR, lg_lenI, lg_lenL, lg_len0]; decide) | decide) (fun x hx hnl hhf hl hw hret hnm hQ h0e => ⟨?_, rfl⟩)
  subst hw
  subst hl
  have hR : Rt x h u.2 (some (.long u.1)) ((some .long)) := ⟨h0e, hhf, hret, hQ⟩
  have hn : ∀ i, i < 7 → i < x.2.2.1.1.1 := fun i hi => by rw [hnl]; exact hi
  have e0 : lv_args 0 [vR x.2.2.2 x0, .int x1] = [(0, vR x.2.2.2 x0), (1, .int x1)] := by simp only [lv_argsR, lv_argsI, lv_argsL, lv_args0]
  rw [e0]
  have hb25 : ∀ (x0 : Nat) (x1 : Int32) (x2 : Int64) (x4 : Int64) (x6 : Int32) (h : Hp), J x 25 [(0, vR x.2.2.2 x0), (1, .int x1), (2, .long x2), (4, .long x4), (6, .int x6)] [] h (mX12_meant_l25 x0 x1 x2 x4 x6 h) (fun r => r = u) := by
    intro x0 x1 x2 x4 x6 h
    have hB : ∀ (x2 : Int64) (x4 : Int64) (x6 : Int32), J x 25 [(0, vR x.2.2.2 x0), (1, .int x1), (2, .long x2), (4, .long x4), (6, .int x6)] [] h (mX12_meant_l25f x0 x1 h x2 x4 x6) (TL (S := (Int64 × Int64 × Int32)) x 25 (fun s => [(0, vR x.2.2.2 x0), (1, .int x1), (2, .long s.1), (4, .long s.2.1), (6, .int s.2.2)]) [] (fun s => h) (fun r => r = u)) := by
      intro x2 x4 x6
      have hb84 : ∀ (x0 : Nat) (x1 : Int32) (x2 : Int64) (x6 : Int32) (t0 : Int64) (t1 : Int64) (h : Hp), J x 84 [(0, vR x.2.2.2 x0), (1, .int x1), (2, .long x2), (6, .int x6)] [.long t1, .long t0] h (mX12_meant_b84 x0 x1 x2 x6 t0 t1 h) (TL (S := (Int64 × Int64 × Int32)) x 25 (fun s => [(0, vR x.2.2.2 x0), (1, .int x1), (2, .long s.1), (4, .long s.2.1), (6, .int s.2.2)]) [] (fun s => h) (fun r => r = u)) := by
        intro x0 x1 x2 x6 t0 t1 h
        unfold mX12_meant_b84
        refine j_ladd (q := 85) hx (dc kX12_meant_0 45 rfl) rfl ?_
        refine j_lstore (q := 87) (i := 4) (l2 := [(0, vR x.2.2.2 x0), (1, .int x1), (2, .long x2), (6, .int x6)]) hx (dc kX12_meant_0 46 rfl) (hn 5 (by decide)) [0, 1, 2, 3] rfl ⟨⟨show (0 : Nat) ≠ 4 by decide, Or.inl (show (0 : Nat) + 1 ≠ 4 by decide)⟩, ⟨⟨show (1 : Nat) ≠ 4 by decide, Or.inl (show (1 : Nat) + 1 ≠ 4 by decide)⟩, ⟨⟨show (2 : Nat) ≠ 4 by decide, Or.inl (show (2 : Nat) + 1 ≠ 4 by decide)⟩, ⟨⟨show (6 : Nat) ≠ 4 by decide, Or.inl (show (6 : Nat) + 1 ≠ 4 by decide)⟩, trivial⟩⟩⟩⟩ (by simp) rfl ?_
        refine j_iinc (q := 90) (l2 := [(4, .long (t0 + t1)), (0, vR x.2.2.2 x0), (1, .int x1), (2, .long x2)]) hx (dc kX12_meant_0 47 rfl) 4 rfl (v := (1 : Int32)) (by decide) (hn 6 (by decide)) [0, 1, 2, 3] rfl ⟨⟨show (4 : Nat) ≠ 6 by decide, Or.inl (show (4 : Nat) + 1 ≠ 6 by decide)⟩, ⟨⟨show (0 : Nat) ≠ 6 by decide, Or.inl (show (0 : Nat) + 1 ≠ 6 by decide)⟩, ⟨⟨show (1 : Nat) ≠ 6 by decide, Or.inl (show (1 : Nat) + 1 ≠ 6 by decide)⟩, ⟨⟨show (2 : Nat) ≠ 6 by decide, Or.inl (show (2 : Nat) + 1 ≠ 6 by decide)⟩, trivial⟩⟩⟩⟩ rfl ?_
        refine j_goto (q := 25) hx (dc kX12_meant_0 48 rfl) (by decide) ?_
        exact j_back [2, 3, 4, 1, 0] (x2, (t0 + t1), (x6 + (1 : Int32))) rfl rfl
      have hb61 : ∀ (x0 : Nat) (x1 : Int32) (x4 : Int64) (x6 : Int32) (t0 : Int64) (t1 : Int64) (h : Hp), J x 61 [(0, vR x.2.2.2 x0), (1, .int x1), (4, .long x4), (6, .int x6)] [.long t1, .long t0] h (mX12_meant_b61 x0 x1 x4 x6 t0 t1 h) (TL (S := (Int64 × Int64 × Int32)) x 25 (fun s => [(0, vR x.2.2.2 x0), (1, .int x1), (2, .long s.1), (4, .long s.2.1), (6, .int s.2.2)]) [] (fun s => h) (fun r => r = u)) := by
        intro x0 x1 x4 x6 t0 t1 h
        unfold mX12_meant_b61
        refine j_ladd (q := 62) hx (dc kX12_meant_0 33 rfl) rfl ?_
        refine j_lstore_n (q := 63) (i := 2) (l2 := [(0, vR x.2.2.2 x0), (1, .int x1), (4, .long x4), (6, .int x6)]) hx (dc kX12_meant_0 34 rfl) rfl (hn 3 (by decide)) [0, 1, 2, 3] rfl ⟨⟨show (0 : Nat) ≠ 2 by decide, Or.inl (show (0 : Nat) + 1 ≠ 2 by decide)⟩, ⟨⟨show (1 : Nat) ≠ 2 by decide, Or.inr rfl⟩, ⟨⟨show (4 : Nat) ≠ 2 by decide, Or.inl (show (4 : Nat) + 1 ≠ 2 by decide)⟩, ⟨⟨show (6 : Nat) ≠ 2 by decide, Or.inl (show (6 : Nat) + 1 ≠ 2 by decide)⟩, trivial⟩⟩⟩⟩ (by simp) rfl ?_
        refine j_lload (q := 65) hx (dc kX12_meant_0 35 rfl) 3 rfl rfl ?_
        refine j_aload_n (q := 66) hx (dc kX12_meant_0 36 rfl) rfl 1 rfl rfl ?_
        refine j_iload (q := 68) hx (dc kX12_meant_0 37 rfl) 4 rfl rfl ?_
        refine w_cVIR (q := 71) (As := [.int x6]) (st := [.long x4]) hx (dc kX12_meant_0 38 rfl) cf12 (by decide) rfl (cI _ my_X12_isLeft lm_X12_398 (by decide)) vs_X12_isLeft rfl (fun u hu => sX12_isLeft _ _ _ _ _ _ hu) (fun e => ite_ne (by unfold mX12_isLeft at e; exact e)) (sum_le (sum_J sum_nil) (by decide)) rfl (fun v11 => ?_)
        refine j_if_eq (q := 74) (tgt := 83) hx (dc kX12_meant_0 39 rfl) (by decide) Iff.rfl rfl ?_ ?_
        · refine j_lconst (q := 84) (v := (0 : Int64)) hx (dc kX12_meant_0 44 rfl) (by decide) rfl ?_
          exact j_sub [1, 2, 0, 4] rfl (hb84 x0 x1 (t0 + t1) x6 x4 (0 : Int64) h)
        · refine j_aload_n (q := 75) hx (dc kX12_meant_0 40 rfl) rfl 1 rfl rfl ?_
          refine j_iload (q := 77) hx (dc kX12_meant_0 41 rfl) 4 rfl rfl ?_
          refine w_cVJR (q := 80) (As := [.int x6]) (st := [.long x4]) hx (dc kX12_meant_0 42 rfl) cf12 (by decide) rfl (cI _ my_X12_weight lm_X12_477 (by decide)) vs_X12_weight rfl (fun u hu => sX12_weight _ _ _ _ _ _ hu) (fun e => ite_ne (by unfold mX12_weight at e; exact e)) (sum_le (sum_J sum_nil) (by decide)) rfl (fun v13 => ?_)
          refine j_goto (q := 84) hx (dc kX12_meant_0 43 rfl) (by decide) ?_
          exact j_sub [1, 2, 0, 4] rfl (hb84 x0 x1 (t0 + t1) x6 x4 v13 h)
      unfold mX12_meant_l25f
      refine j_iload (q := 27) hx (dc kX12_meant_0 15 rfl) 4 rfl rfl ?_
      refine j_sipush (q := 30) (v := (256 : Int32)) hx (dc kX12_meant_0 16 rfl) (by decide) rfl ?_
      refine j_icmp_geS (q := 33) (tgt := 93) hx (dc kX12_meant_0 17 rfl) (by decide) rfl ?_ ?_
      · refine j_exit ?_
        refine j_aload_n (q := 94) hx (dc kX12_meant_0 49 rfl) rfl 0 rfl rfl ?_
        refine j_lload_n (q := 95) hx (dc kX12_meant_0 50 rfl) rfl 2 rfl rfl ?_
        refine j_lload (q := 97) hx (dc kX12_meant_0 51 rfl) 3 rfl rfl ?_
        refine w_cVVW (q := 100) (As := [.long x2, .long x4]) (st := []) hx (dc kX12_meant_0 52 rfl) cf12 (by decide) rfl (cI _ my_X12_tellsBy lm_X12_481 (by decide)) vs_X12_tellsBy rfl (fun u hu => sX12_tellsBy _ _ _ _ _ _ _ hu) (fun e => ite_ne (by unfold mX12_tellsBy at e; exact e)) (Nat.zero_le _) rfl (fun h6 => ?_)
        refine j_iload_n (q := 101) hx (dc kX12_meant_0 53 rfl) rfl 1 rfl rfl ?_
        refine j_if_neS (q := 104) (tgt := 111) hx (dc kX12_meant_0 54 rfl) (by decide) rfl ?_ ?_
        · refine j_aload_n (q := 112) hx (dc kX12_meant_0 58 rfl) rfl 0 rfl rfl ?_
          refine w_gL (q := 115) hx (dc kX12_meant_0 59 rfl) ff_X12_37 lk_X12_474 rfl (fun v7 => ?_)
          exact r_lW hx hR (dc kX12_meant_0 60 rfl)
        · refine j_aload_n (q := 105) hx (dc kX12_meant_0 55 rfl) rfl 0 rfl rfl ?_
          refine w_gL (q := 108) hx (dc kX12_meant_0 56 rfl) ff_X12_36 lk_X12_471 rfl (fun v8 => ?_)
          refine j_goto (q := 115) hx (dc kX12_meant_0 57 rfl) (by decide) ?_
          exact r_lW hx hR (dc kX12_meant_0 60 rfl)
      · refine j_lload_n (q := 34) hx (dc kX12_meant_0 18 rfl) rfl 2 rfl rfl ?_
        refine j_aload_n (q := 35) hx (dc kX12_meant_0 19 rfl) rfl 0 rfl rfl ?_
        refine j_iload (q := 37) hx (dc kX12_meant_0 20 rfl) 4 rfl rfl ?_
        refine w_cVIR (q := 40) (As := [.int x6]) (st := [.long x2]) hx (dc kX12_meant_0 21 rfl) cf12 (by decide) rfl (cI _ my_X12_isLeft lm_X12_398 (by decide)) vs_X12_isLeft rfl (fun u hu => sX12_isLeft _ _ _ _ _ _ hu) (fun e => ite_ne (by unfold mX12_isLeft at e; exact e)) (sum_le (sum_J sum_nil) (by decide)) rfl (fun v9 => ?_)
        refine j_if_eq (q := 43) (tgt := 60) hx (dc kX12_meant_0 22 rfl) (by decide) Iff.rfl rfl ?_ ?_
        · refine j_lconst (q := 61) (v := (0 : Int64)) hx (dc kX12_meant_0 32 rfl) (by decide) rfl ?_
          exact j_sub [0, 1, 3, 4] rfl (hb61 x0 x1 x4 x6 x2 (0 : Int64) h)
        · refine j_aload_n (q := 44) hx (dc kX12_meant_0 23 rfl) rfl 0 rfl rfl ?_
          refine j_iload (q := 46) hx (dc kX12_meant_0 24 rfl) 4 rfl rfl ?_
          refine w_cVIR (q := 49) (As := [.int x6]) (st := [.long x2]) hx (dc kX12_meant_0 25 rfl) cf12 (by decide) rfl (cI _ my_X12_awardOf lm_X12_491 (by decide)) vs_X12_awardOf rfl (fun u hu => sX12_awardOf _ _ _ _ _ _ hu) (fun e => ite_ne (by unfold mX12_awardOf at e; exact e)) (sum_le (sum_J sum_nil) (by decide)) rfl (fun v15 => ?_)
          refine j_i2l (q := 50) hx (dc kX12_meant_0 26 rfl) rfl ?_
          refine j_aload_n (q := 51) hx (dc kX12_meant_0 27 rfl) rfl 0 rfl rfl ?_
          refine j_iload (q := 53) hx (dc kX12_meant_0 28 rfl) 4 rfl rfl ?_
          refine w_cVJR (q := 56) (As := [.int x6]) (st := [.long v15.toInt64, .long x2]) hx (dc kX12_meant_0 29 rfl) cf12 (by decide) rfl (cI _ my_X12_weight lm_X12_477 (by decide)) vs_X12_weight rfl (fun u hu => sX12_weight _ _ _ _ _ _ hu) (fun e => ite_ne (by unfold mX12_weight at e; exact e)) (sum_le (sum_J (sum_J sum_nil)) (by decide)) rfl (fun v17 => ?_)
          refine j_lmul (q := 57) hx (dc kX12_meant_0 30 rfl) rfl ?_
          refine j_goto (q := 61) hx (dc kX12_meant_0 31 rfl) (by decide) ?_
          exact j_sub [0, 1, 3, 4] rfl (hb61 x0 x1 x4 x6 x2 (v15.toInt64 * v17) h)
    exact j_loop (S := (Int64 × Int64 × Int32)) (lvf := fun s => [(0, vR x.2.2.2 x0), (1, .int x1), (2, .long s.1), (4, .long s.2.1), (6, .int s.2.2)]) (hpf := fun s => h) (f := (fun s : (Int64 × Int64 × Int32) => mX12_meant_l25f x0 x1 h s.1 s.2.1 s.2.2)) (fun s => hB s.1 s.2.1 s.2.2) (x2, x4, x6)
  unfold mX12_meant
  refine J.ckd fun hck => ?_
  refine j_iload_n (q := 1) hx (dc kX12_meant_0 0 rfl) rfl 1 rfl rfl ?_
  refine j_iconst (q := 2) (v := (0 : Int32)) hx (dc kX12_meant_0 1 rfl) (by decide) rfl ?_
  refine j_iconst (q := 3) (v := (1 : Int32)) hx (dc kX12_meant_0 2 rfl) (by decide) rfl ?_
  refine w_cSIR (q := 6) (As := [.int x1, .int (0 : Int32), .int (1 : Int32)]) (st := []) hx (dc kX12_meant_0 3 rfl) (cI _ my_X12_in lm_X12_85 (by decide)) st_X12_in rfl (fun u hu => sX12_in _ _ _ _ _ _ _ hu) (Nat.zero_le _) rfl (fun v1 => ?_)
  refine j_if_neS (q := 9) (tgt := 13) hx (dc kX12_meant_0 4 rfl) (by decide) rfl ?_ ?_
  · refine j_aload_n (q := 14) hx (dc kX12_meant_0 7 rfl) rfl 0 rfl rfl ?_
    refine w_cVVW (q := 17) (As := []) (st := []) hx (dc kX12_meant_0 8 rfl) cf12 (by decide) rfl (cI _ my_X12_laysWins lm_X12_488 (by decide)) vs_X12_laysWins rfl (fun u hu => sX12_laysWins _ _ _ _ _ hu) (fun e => ite_ne (by unfold mX12_laysWins at e; exact e)) (Nat.zero_le _) rfl (fun h4 => ?_)
    refine j_lconst (q := 18) (v := (0 : Int64)) hx (dc kX12_meant_0 9 rfl) (by decide) rfl ?_
    refine j_lstore_n (q := 19) (i := 2) (l2 := [(0, vR x.2.2.2 x0), (1, .int x1)]) hx (dc kX12_meant_0 10 rfl) rfl (hn 3 (by decide)) [0, 1] rfl ⟨⟨show (0 : Nat) ≠ 2 by decide, Or.inl (show (0 : Nat) + 1 ≠ 2 by decide)⟩, ⟨⟨show (1 : Nat) ≠ 2 by decide, Or.inr rfl⟩, trivial⟩⟩ (by simp) rfl ?_
    refine j_lconst (q := 20) (v := (0 : Int64)) hx (dc kX12_meant_0 11 rfl) (by decide) rfl ?_
    refine j_lstore (q := 22) (i := 4) (l2 := [(2, .long (0 : Int64)), (0, vR x.2.2.2 x0), (1, .int x1)]) hx (dc kX12_meant_0 12 rfl) (hn 5 (by decide)) [0, 1, 2] rfl ⟨⟨show (2 : Nat) ≠ 4 by decide, Or.inl (show (2 : Nat) + 1 ≠ 4 by decide)⟩, ⟨⟨show (0 : Nat) ≠ 4 by decide, Or.inl (show (0 : Nat) + 1 ≠ 4 by decide)⟩, ⟨⟨show (1 : Nat) ≠ 4 by decide, Or.inl (show (1 : Nat) + 1 ≠ 4 by decide)⟩, trivial⟩⟩⟩ (by simp) rfl ?_
    refine j_iconst (q := 23) (v := (0 : Int32)) hx (dc kX12_meant_0 13 rfl) (by decide) rfl ?_
    refine j_istore (q := 25) (i := 6) (l2 := [(4, .long (0 : Int64)), (2, .long (0 : Int64)), (0, vR x.2.2.2 x0), (1, .int x1)]) hx (dc kX12_meant_0 14 rfl) (hn 6 (by decide)) [0, 1, 2, 3] rfl ⟨⟨show (4 : Nat) ≠ 6 by decide, Or.inl (show (4 : Nat) + 1 ≠ 6 by decide)⟩, ⟨⟨show (2 : Nat) ≠ 6 by decide, Or.inl (show (2 : Nat) + 1 ≠ 6 by decide)⟩, ⟨⟨show (0 : Nat) ≠ 6 by decide, Or.inl (show (0 : Nat) + 1 ≠ 6 by decide)⟩, ⟨⟨show (1 : Nat) ≠ 6 by decide, Or.inl (show (1 : Nat) + 1 ≠ 6 by decide)⟩, trivial⟩⟩⟩⟩ rfl ?_
    exact j_sub [3, 4, 2, 1, 0] rfl (hb25 x0 x1 (0 : Int64) (0 : Int64) (0 : Int32) h4)
  · refine j_ldc2 (q := 12) hx kl_X12_494 (dc kX12_meant_0 5 rfl) rfl ?_
    exact r_lW hx hR (dc kX12_meant_0 6 rfl)

set_option maxHeartbeats 4000000 in
set_option maxRecDepth 100000 in
theorem sX12_firstLike (l : Launch) (w : Wd) (x0 : Nat) (x1 : Int32) (h : Hp) (u : Int32) (hK : mX12_firstLike x0 x1 h = some u) : M1 l w mi_X12_firstLike 3 [vR w x0, .int x1] h h (some (.int u)) := by
  refine M1.of (own := RX12) (T := fun _ r => r = u) hK (by decide +kernel) rfl (by first | (simp only [lg_lenR, lg_lenI, lg_lenL, lg_len0]; decide) | decide) (fun x hx hnl hhf hl hw hret hnm hQ h0e => ⟨?_, rfl⟩)
  subst hw
  subst hl
  have hR : Rt x h h (some (.int u)) ((some .int)) := ⟨h0e, hhf, hret, hQ⟩
  have hn : ∀ i, i < 3 → i < x.2.2.1.1.1 := fun i hi => by rw [hnl]; exact hi
  have e0 : lv_args 0 [vR x.2.2.2 x0, .int x1] = [(0, vR x.2.2.2 x0), (1, .int x1)] := by simp only [lv_argsR, lv_argsI, lv_argsL, lv_args0]
  rw [e0]
  have hb2 : ∀ (x0 : Nat) (x1 : Int32) (x2 : Int32), J x 2 [(0, vR x.2.2.2 x0), (1, .int x1), (2, .int x2)] [] h (mX12_firstLike_l2 x0 x1 x2 h) (fun r => r = u) := by
    intro x0 x1 x2
    have hB : ∀ (x2 : Int32), J x 2 [(0, vR x.2.2.2 x0), (1, .int x1), (2, .int x2)] [] h (mX12_firstLike_l2f x0 x1 h x2) (TL (S := Int32) x 2 (fun s => [(0, vR x.2.2.2 x0), (1, .int x1), (2, .int s)]) [] (fun s => h) (fun r => r = u)) := by
      intro x2
      have hb25 : ∀ (x0 : Nat) (x1 : Int32) (x2 : Int32), J x 25 [(0, vR x.2.2.2 x0), (1, .int x1), (2, .int x2)] [] h (mX12_firstLike_b25 x0 x1 x2 h) (TL (S := Int32) x 2 (fun s => [(0, vR x.2.2.2 x0), (1, .int x1), (2, .int s)]) [] (fun s => h) (fun r => r = u)) := by
        intro x0 x1 x2
        unfold mX12_firstLike_b25
        refine j_iinc (q := 28) (l2 := [(0, vR x.2.2.2 x0), (1, .int x1)]) hx (dc kX12_firstLike_0 15 rfl) 2 rfl (v := (1 : Int32)) (by decide) (hn 2 (by decide)) [0, 1] rfl ⟨⟨show (0 : Nat) ≠ 2 by decide, Or.inl (show (0 : Nat) + 1 ≠ 2 by decide)⟩, ⟨⟨show (1 : Nat) ≠ 2 by decide, Or.inr rfl⟩, trivial⟩⟩ rfl ?_
        refine j_goto (q := 2) hx (dc kX12_firstLike_0 16 rfl) (by decide) ?_
        exact j_back [1, 2, 0] (x2 + (1 : Int32)) rfl rfl
      unfold mX12_firstLike_l2f
      refine j_aload_n (q := 3) hx (dc kX12_firstLike_0 2 rfl) rfl 0 rfl rfl ?_
      refine j_iload_n (q := 4) hx (dc kX12_firstLike_0 3 rfl) rfl 2 rfl rfl ?_
      refine w_cVIR (q := 7) (As := [.int x2]) (st := []) hx (dc kX12_firstLike_0 4 rfl) cf12 (by decide) rfl (cI _ my_X12_isLeft lm_X12_398 (by decide)) vs_X12_isLeft rfl (fun u hu => sX12_isLeft _ _ _ _ _ _ hu) (fun e => ite_ne (by unfold mX12_isLeft at e; exact e)) (Nat.zero_le _) rfl (fun v1 => ?_)
      refine j_if_eq (q := 10) (tgt := 25) hx (dc kX12_firstLike_0 5 rfl) (by decide) Iff.rfl rfl ?_ ?_
      · exact hb25 x0 x1 x2
      · refine j_aload_n (q := 11) hx (dc kX12_firstLike_0 6 rfl) rfl 0 rfl rfl ?_
        refine w_gR (q := 14) hx (dc kX12_firstLike_0 7 rfl) ff_X12_38 lk_X12_76 rfl (fun v3 => ?_)
        refine j_iload_n (q := 15) hx (dc kX12_firstLike_0 8 rfl) rfl 2 rfl rfl ?_
        refine j_ldI (q := 16) hx (dc kX12_firstLike_0 9 rfl) rfl (fun v4 => ?_)
        refine j_aload_n (q := 17) hx (dc kX12_firstLike_0 10 rfl) rfl 0 rfl rfl ?_
        refine w_gR (q := 20) hx (dc kX12_firstLike_0 11 rfl) ff_X12_38 lk_X12_76 rfl (fun v5 => ?_)
        refine j_iload_n (q := 21) hx (dc kX12_firstLike_0 12 rfl) rfl 1 rfl rfl ?_
        refine j_ldI (q := 22) hx (dc kX12_firstLike_0 13 rfl) rfl (fun v6 => ?_)
        refine j_icmp_eq (q := 25) (tgt := 31) hx (dc kX12_firstLike_0 14 rfl) (by decide) Iff.rfl rfl ?_ ?_
        · refine j_exit ?_
          refine j_iload_n (q := 32) hx (dc kX12_firstLike_0 17 rfl) rfl 2 rfl rfl ?_
          exact r_iR hx hR (dc kX12_firstLike_0 18 rfl)
        · exact hb25 x0 x1 x2
    exact j_loop (S := Int32) (lvf := fun s => [(0, vR x.2.2.2 x0), (1, .int x1), (2, .int s)]) (hpf := fun s => h) (f := (fun s : Int32 => mX12_firstLike_l2f x0 x1 h s)) (fun s => hB s) x2
  unfold mX12_firstLike
  refine J.ckd fun hck => ?_
  refine j_iconst (q := 1) (v := (0 : Int32)) hx (dc kX12_firstLike_0 0 rfl) (by decide) rfl ?_
  refine j_istore_n (q := 2) (i := 2) (l2 := [(0, vR x.2.2.2 x0), (1, .int x1)]) hx (dc kX12_firstLike_0 1 rfl) rfl (hn 2 (by decide)) [0, 1] rfl ⟨⟨show (0 : Nat) ≠ 2 by decide, Or.inl (show (0 : Nat) + 1 ≠ 2 by decide)⟩, ⟨⟨show (1 : Nat) ≠ 2 by decide, Or.inr rfl⟩, trivial⟩⟩ rfl ?_
  exact j_sub [1, 2, 0] rfl (hb2 x0 x1 (0 : Int32))

set_option maxHeartbeats 4000000 in
set_option maxRecDepth 100000 in
theorem sX12_outcomes (l : Launch) (w : Wd) (x0 : Nat) (h : Hp) (u : (Int32 × Hp)) (hK : mX12_outcomes x0 h = some u) : M1 l w mi_X12_outcomes 8 [vR w x0] h u.2 (some (.int u.1)) := by
  refine M1.of (own := RX12) (T := fun _ r => r = u) hK (by decide +kernel) rfl (by first | (simp only [lg_lenR, lg_lenI, lg_lenL, lg_len0]; decide) | decide) (fun x hx hnl hhf hl hw hret hnm hQ h0e => ⟨?_, rfl⟩)
  subst hw
  subst hl
  have hR : Rt x h u.2 (some (.int u.1)) ((some .int)) := ⟨h0e, hhf, hret, hQ⟩
  have hn : ∀ i, i < 3 → i < x.2.2.1.1.1 := fun i hi => by rw [hnl]; exact hi
  have e0 : lv_args 0 [vR x.2.2.2 x0] = [(0, vR x.2.2.2 x0)] := by simp only [lv_argsR, lv_argsI, lv_argsL, lv_args0]
  rw [e0]
  have hb8 : ∀ (x0 : Nat) (x1 : Int32) (x2 : Int32) (h : Hp), J x 8 [(0, vR x.2.2.2 x0), (1, .int x1), (2, .int x2)] [] h (mX12_outcomes_l8 x0 x1 x2 h) (fun r => r = u) := by
    intro x0 x1 x2 h
    have hB : ∀ (x1 : Int32) (x2 : Int32), J x 8 [(0, vR x.2.2.2 x0), (1, .int x1), (2, .int x2)] [] h (mX12_outcomes_l8f x0 h x1 x2) (TL (S := (Int32 × Int32)) x 8 (fun s => [(0, vR x.2.2.2 x0), (1, .int s.1), (2, .int s.2)]) [] (fun s => h) (fun r => r = u)) := by
      intro x1 x2
      have hb38 : ∀ (x0 : Nat) (x2 : Int32) (t0 : Int32) (t1 : Int32) (h : Hp), J x 38 [(0, vR x.2.2.2 x0), (2, .int x2)] [.int t1, .int t0] h (mX12_outcomes_b38 x0 x2 t0 t1 h) (TL (S := (Int32 × Int32)) x 8 (fun s => [(0, vR x.2.2.2 x0), (1, .int s.1), (2, .int s.2)]) [] (fun s => h) (fun r => r = u)) := by
        intro x0 x2 t0 t1 h
        unfold mX12_outcomes_b38
        refine j_iadd (q := 39) hx (dc kX12_outcomes_0 22 rfl) rfl ?_
        refine j_istore_n (q := 40) (i := 1) (l2 := [(0, vR x.2.2.2 x0), (2, .int x2)]) hx (dc kX12_outcomes_0 23 rfl) rfl (hn 1 (by decide)) [0, 1] rfl ⟨⟨show (0 : Nat) ≠ 1 by decide, Or.inr (vR_cat _ _)⟩, ⟨⟨show (2 : Nat) ≠ 1 by decide, Or.inl (show (2 : Nat) + 1 ≠ 1 by decide)⟩, trivial⟩⟩ rfl ?_
        refine j_iinc (q := 43) (l2 := [(1, .int (t0 + t1)), (0, vR x.2.2.2 x0)]) hx (dc kX12_outcomes_0 24 rfl) 2 rfl (v := (1 : Int32)) (by decide) (hn 2 (by decide)) [0, 1] rfl ⟨⟨show (1 : Nat) ≠ 2 by decide, Or.inr rfl⟩, ⟨⟨show (0 : Nat) ≠ 2 by decide, Or.inl (show (0 : Nat) + 1 ≠ 2 by decide)⟩, trivial⟩⟩ rfl ?_
        refine j_goto (q := 8) hx (dc kX12_outcomes_0 25 rfl) (by decide) ?_
        exact j_back [2, 1, 0] ((t0 + t1), (x2 + (1 : Int32))) rfl rfl
      have hb37 : ∀ (x0 : Nat) (x2 : Int32) (t0 : Int32) (h : Hp), J x 37 [(0, vR x.2.2.2 x0), (2, .int x2)] [.int t0] h (mX12_outcomes_b37 x0 x2 t0 h) (TL (S := (Int32 × Int32)) x 8 (fun s => [(0, vR x.2.2.2 x0), (1, .int s.1), (2, .int s.2)]) [] (fun s => h) (fun r => r = u)) := by
        intro x0 x2 t0 h
        unfold mX12_outcomes_b37
        refine j_iconst (q := 38) (v := (0 : Int32)) hx (dc kX12_outcomes_0 21 rfl) (by decide) rfl ?_
        exact hb38 x0 x2 t0 (0 : Int32) h
      unfold mX12_outcomes_l8f
      refine j_iload_n (q := 9) hx (dc kX12_outcomes_0 6 rfl) rfl 2 rfl rfl ?_
      refine j_sipush (q := 12) (v := (256 : Int32)) hx (dc kX12_outcomes_0 7 rfl) (by decide) rfl ?_
      refine j_icmp_geS (q := 15) (tgt := 46) hx (dc kX12_outcomes_0 8 rfl) (by decide) rfl ?_ ?_
      · refine j_exit ?_
        refine j_iload_n (q := 47) hx (dc kX12_outcomes_0 26 rfl) rfl 1 rfl rfl ?_
        exact r_iW hx hR (dc kX12_outcomes_0 27 rfl)
      · refine j_iload_n (q := 16) hx (dc kX12_outcomes_0 9 rfl) rfl 1 rfl rfl ?_
        refine j_aload_n (q := 17) hx (dc kX12_outcomes_0 10 rfl) rfl 0 rfl rfl ?_
        refine j_iload_n (q := 18) hx (dc kX12_outcomes_0 11 rfl) rfl 2 rfl rfl ?_
        refine w_cVIR (q := 21) (As := [.int x2]) (st := [.int x1]) hx (dc kX12_outcomes_0 12 rfl) cf12 (by decide) rfl (cI _ my_X12_isLeft lm_X12_398 (by decide)) vs_X12_isLeft rfl (fun u hu => sX12_isLeft _ _ _ _ _ _ hu) (fun e => ite_ne (by unfold mX12_isLeft at e; exact e)) (sum_le (sum_I sum_nil) (by decide)) rfl (fun v3 => ?_)
        refine j_if_eq (q := 24) (tgt := 37) hx (dc kX12_outcomes_0 13 rfl) (by decide) Iff.rfl rfl ?_ ?_
        · exact j_sub [0, 2] rfl (hb37 x0 x2 x1 h)
        · refine j_aload_n (q := 25) hx (dc kX12_outcomes_0 14 rfl) rfl 0 rfl rfl ?_
          refine j_iload_n (q := 26) hx (dc kX12_outcomes_0 15 rfl) rfl 2 rfl rfl ?_
          refine w_cVIR (q := 29) (As := [.int x2]) (st := [.int x1]) hx (dc kX12_outcomes_0 16 rfl) cf12 (by decide) rfl (cI _ my_X12_firstLike lm_X12_496 (by decide)) vs_X12_firstLike rfl (fun u hu => sX12_firstLike _ _ _ _ _ _ hu) (fun e => ite_ne (by unfold mX12_firstLike at e; exact e)) (sum_le (sum_I sum_nil) (by decide)) rfl (fun v5 => ?_)
          refine j_iload_n (q := 30) hx (dc kX12_outcomes_0 17 rfl) rfl 2 rfl rfl ?_
          refine j_icmp_neS (q := 33) (tgt := 37) hx (dc kX12_outcomes_0 18 rfl) (by decide) rfl ?_ ?_
          · exact j_sub [0, 2] rfl (hb37 x0 x2 x1 h)
          · refine j_iconst (q := 34) (v := (1 : Int32)) hx (dc kX12_outcomes_0 19 rfl) (by decide) rfl ?_
            refine j_goto (q := 38) hx (dc kX12_outcomes_0 20 rfl) (by decide) ?_
            exact j_sub [0, 2] rfl (hb38 x0 x2 x1 (1 : Int32) h)
    exact j_loop (S := (Int32 × Int32)) (lvf := fun s => [(0, vR x.2.2.2 x0), (1, .int s.1), (2, .int s.2)]) (hpf := fun s => h) (f := (fun s : (Int32 × Int32) => mX12_outcomes_l8f x0 h s.1 s.2)) (fun s => hB s.1 s.2) (x1, x2)
  unfold mX12_outcomes
  refine J.ckd fun hck => ?_
  refine j_aload_n (q := 1) hx (dc kX12_outcomes_0 0 rfl) rfl 0 rfl rfl ?_
  refine w_cVVW (q := 4) (As := []) (st := []) hx (dc kX12_outcomes_0 1 rfl) cf12 (by decide) rfl (cI _ my_X12_laysWins lm_X12_488 (by decide)) vs_X12_laysWins rfl (fun u hu => sX12_laysWins _ _ _ _ _ hu) (fun e => ite_ne (by unfold mX12_laysWins at e; exact e)) (Nat.zero_le _) rfl (fun h2 => ?_)
  refine j_iconst (q := 5) (v := (0 : Int32)) hx (dc kX12_outcomes_0 2 rfl) (by decide) rfl ?_
  refine j_istore_n (q := 6) (i := 1) (l2 := [(0, vR x.2.2.2 x0)]) hx (dc kX12_outcomes_0 3 rfl) rfl (hn 1 (by decide)) [0] rfl ⟨⟨show (0 : Nat) ≠ 1 by decide, Or.inr (vR_cat _ _)⟩, trivial⟩ rfl ?_
  refine j_iconst (q := 7) (v := (0 : Int32)) hx (dc kX12_outcomes_0 4 rfl) (by decide) rfl ?_
  refine j_istore_n (q := 8) (i := 2) (l2 := [(1, .int (0 : Int32)), (0, vR x.2.2.2 x0)]) hx (dc kX12_outcomes_0 5 rfl) rfl (hn 2 (by decide)) [0, 1] rfl ⟨⟨show (1 : Nat) ≠ 2 by decide, Or.inr rfl⟩, ⟨⟨show (0 : Nat) ≠ 2 by decide, Or.inl (show (0 : Nat) + 1 ≠ 2 by decide)⟩, trivial⟩⟩ rfl ?_
  exact j_sub [2, 1, 0] rfl (hb8 x0 (0 : Int32) (0 : Int32) h2)

set_option maxHeartbeats 4000000 in
set_option maxRecDepth 100000 in
theorem sX12_outcome (l : Launch) (w : Wd) (x0 : Nat) (x1 : Int32) (x2 : Int32) (h : Hp) (u : (Int32 × Hp)) (hK : mX12_outcome x0 x1 x2 h = some u) : M1 l w mi_X12_outcome 9 [vR w x0, .int x1, .int x2] h u.2 (some (.int u.1)) := by
  refine M1.of (own := RX12) (T := fun _ r => r = u) hK (by decide +kernel) rfl (by first | (simp only [lg_lenR, lg_lenI, lg_lenL, lg_len0]; decide) | decide) (fun x hx hnl hhf hl hw hret hnm hQ h0e => ⟨?_, rfl⟩)
  subst hw
  subst hl
  have hR : Rt x h u.2 (some (.int u.1)) ((some .int)) := ⟨h0e, hhf, hret, hQ⟩
  have hn : ∀ i, i < 6 → i < x.2.2.1.1.1 := fun i hi => by rw [hnl]; exact hi
  have e0 : lv_args 0 [vR x.2.2.2 x0, .int x1, .int x2] = [(0, vR x.2.2.2 x0), (1, .int x1), (2, .int x2)] := by simp only [lv_argsR, lv_argsI, lv_argsL, lv_args0]
  rw [e0]
  have hb74 : ∀ (x0 : Nat) (x2 : Int32) (x3 : Int32) (x4 : Int32) (x5 : Int32) (h : Hp), J x 74 [(0, vR x.2.2.2 x0), (2, .int x2), (3, .int x3), (4, .int x4), (5, .int x5)] [] h (mX12_outcome_l74 x0 x2 x3 x4 x5 h) (fun r => r = u) := by
    intro x0 x2 x3 x4 x5 h
    have hB : ∀ (x4 : Int32) (x5 : Int32), J x 74 [(0, vR x.2.2.2 x0), (2, .int x2), (3, .int x3), (4, .int x4), (5, .int x5)] [] h (mX12_outcome_l74f x0 x2 x3 h x4 x5) (TL (S := (Int32 × Int32)) x 74 (fun s => [(0, vR x.2.2.2 x0), (2, .int x2), (3, .int x3), (4, .int s.1), (5, .int s.2)]) [] (fun s => h) (fun r => r = u)) := by
      intro x4 x5
      have hb114 : ∀ (x0 : Nat) (x2 : Int32) (x3 : Int32) (x5 : Int32) (t0 : Int32) (t1 : Int32) (h : Hp), J x 114 [(0, vR x.2.2.2 x0), (2, .int x2), (3, .int x3), (5, .int x5)] [.int t1, .int t0] h (mX12_outcome_b114 x0 x2 x3 x5 t0 t1 h) (TL (S := (Int32 × Int32)) x 74 (fun s => [(0, vR x.2.2.2 x0), (2, .int x2), (3, .int x3), (4, .int s.1), (5, .int s.2)]) [] (fun s => h) (fun r => r = u)) := by
        intro x0 x2 x3 x5 t0 t1 h
        unfold mX12_outcome_b114
        refine j_iadd (q := 115) hx (dc kX12_outcome_0 60 rfl) rfl ?_
        refine j_istore (q := 117) (i := 4) (l2 := [(0, vR x.2.2.2 x0), (2, .int x2), (3, .int x3), (5, .int x5)]) hx (dc kX12_outcome_0 61 rfl) (hn 4 (by decide)) [0, 1, 2, 3] rfl ⟨⟨show (0 : Nat) ≠ 4 by decide, Or.inl (show (0 : Nat) + 1 ≠ 4 by decide)⟩, ⟨⟨show (2 : Nat) ≠ 4 by decide, Or.inl (show (2 : Nat) + 1 ≠ 4 by decide)⟩, ⟨⟨show (3 : Nat) ≠ 4 by decide, Or.inr rfl⟩, ⟨⟨show (5 : Nat) ≠ 4 by decide, Or.inl (show (5 : Nat) + 1 ≠ 4 by decide)⟩, trivial⟩⟩⟩⟩ rfl ?_
        refine j_iinc (q := 120) (l2 := [(4, .int (t0 + t1)), (0, vR x.2.2.2 x0), (2, .int x2), (3, .int x3)]) hx (dc kX12_outcome_0 62 rfl) 4 rfl (v := (1 : Int32)) (by decide) (hn 5 (by decide)) [0, 1, 2, 3] rfl ⟨⟨show (4 : Nat) ≠ 5 by decide, Or.inr rfl⟩, ⟨⟨show (0 : Nat) ≠ 5 by decide, Or.inl (show (0 : Nat) + 1 ≠ 5 by decide)⟩, ⟨⟨show (2 : Nat) ≠ 5 by decide, Or.inl (show (2 : Nat) + 1 ≠ 5 by decide)⟩, ⟨⟨show (3 : Nat) ≠ 5 by decide, Or.inl (show (3 : Nat) + 1 ≠ 5 by decide)⟩, trivial⟩⟩⟩⟩ rfl ?_
        refine j_goto (q := 74) hx (dc kX12_outcome_0 63 rfl) (by decide) ?_
        exact j_back [2, 3, 4, 1, 0] ((t0 + t1), (x5 + (1 : Int32))) rfl rfl
      have hb113 : ∀ (x0 : Nat) (x2 : Int32) (x3 : Int32) (x5 : Int32) (t0 : Int32) (h : Hp), J x 113 [(0, vR x.2.2.2 x0), (2, .int x2), (3, .int x3), (5, .int x5)] [.int t0] h (mX12_outcome_b113 x0 x2 x3 x5 t0 h) (TL (S := (Int32 × Int32)) x 74 (fun s => [(0, vR x.2.2.2 x0), (2, .int x2), (3, .int x3), (4, .int s.1), (5, .int s.2)]) [] (fun s => h) (fun r => r = u)) := by
        intro x0 x2 x3 x5 t0 h
        unfold mX12_outcome_b113
        refine j_iconst (q := 114) (v := (0 : Int32)) hx (dc kX12_outcome_0 59 rfl) (by decide) rfl ?_
        exact hb114 x0 x2 x3 x5 t0 (0 : Int32) h
      unfold mX12_outcome_l74f
      refine j_iload (q := 76) hx (dc kX12_outcome_0 40 rfl) 4 rfl rfl ?_
      refine j_sipush (q := 79) (v := (256 : Int32)) hx (dc kX12_outcome_0 41 rfl) (by decide) rfl ?_
      refine j_icmp_geS (q := 82) (tgt := 123) hx (dc kX12_outcome_0 42 rfl) (by decide) rfl ?_ ?_
      · refine j_exit ?_
        refine j_iload_n (q := 124) hx (dc kX12_outcome_1 0 rfl) rfl 1 rfl rfl ?_
        refine j_if_neS (q := 127) (tgt := 136) hx (dc kX12_outcome_1 1 rfl) (by decide) rfl ?_ ?_
        · refine j_iload_n (q := 137) hx (dc kX12_outcome_1 7 rfl) rfl 1 rfl rfl ?_
          refine j_iconst (q := 138) (v := (1 : Int32)) hx (dc kX12_outcome_1 8 rfl) (by decide) rfl ?_
          refine j_icmp_neS (q := 141) (tgt := 146) hx (dc kX12_outcome_1 9 rfl) (by decide) rfl ?_ ?_
          · refine j_iload_n (q := 147) hx (dc kX12_outcome_1 12 rfl) rfl 2 rfl rfl ?_
            exact r_iW hx hR (dc kX12_outcome_1 13 rfl)
          · refine j_iload (q := 143) hx (dc kX12_outcome_1 10 rfl) 3 rfl rfl ?_
            refine j_goto (q := 147) hx (dc kX12_outcome_1 11 rfl) (by decide) ?_
            exact r_iW hx hR (dc kX12_outcome_1 13 rfl)
        · refine j_aload_n (q := 128) hx (dc kX12_outcome_1 2 rfl) rfl 0 rfl rfl ?_
          refine w_gR (q := 131) hx (dc kX12_outcome_1 3 rfl) ff_X12_38 lk_X12_76 rfl (fun v7 => ?_)
          refine j_iload_n (q := 132) hx (dc kX12_outcome_1 4 rfl) rfl 2 rfl rfl ?_
          refine j_ldI (q := 133) hx (dc kX12_outcome_1 5 rfl) rfl (fun v8 => ?_)
          refine j_goto (q := 147) hx (dc kX12_outcome_1 6 rfl) (by decide) ?_
          exact r_iW hx hR (dc kX12_outcome_1 13 rfl)
      · refine j_iload (q := 84) hx (dc kX12_outcome_0 43 rfl) 3 rfl rfl ?_
        refine j_aload_n (q := 85) hx (dc kX12_outcome_0 44 rfl) rfl 0 rfl rfl ?_
        refine j_iload (q := 87) hx (dc kX12_outcome_0 45 rfl) 4 rfl rfl ?_
        refine w_cVIR (q := 90) (As := [.int x5]) (st := [.int x4]) hx (dc kX12_outcome_0 46 rfl) cf12 (by decide) rfl (cI _ my_X12_isLeft lm_X12_398 (by decide)) vs_X12_isLeft rfl (fun u hu => sX12_isLeft _ _ _ _ _ _ hu) (fun e => ite_ne (by unfold mX12_isLeft at e; exact e)) (sum_le (sum_I sum_nil) (by decide)) rfl (fun v9 => ?_)
        refine j_if_eq (q := 93) (tgt := 113) hx (dc kX12_outcome_0 47 rfl) (by decide) Iff.rfl rfl ?_ ?_
        · exact j_sub [0, 1, 2, 4] rfl (hb113 x0 x2 x3 x5 x4 h)
        · refine j_aload_n (q := 94) hx (dc kX12_outcome_0 48 rfl) rfl 0 rfl rfl ?_
          refine w_gR (q := 97) hx (dc kX12_outcome_0 49 rfl) ff_X12_38 lk_X12_76 rfl (fun v11 => ?_)
          refine j_iload (q := 99) hx (dc kX12_outcome_0 50 rfl) 4 rfl rfl ?_
          refine j_ldI (q := 100) hx (dc kX12_outcome_0 51 rfl) rfl (fun v12 => ?_)
          refine j_aload_n (q := 101) hx (dc kX12_outcome_0 52 rfl) rfl 0 rfl rfl ?_
          refine w_gR (q := 104) hx (dc kX12_outcome_0 53 rfl) ff_X12_38 lk_X12_76 rfl (fun v13 => ?_)
          refine j_iload_n (q := 105) hx (dc kX12_outcome_0 54 rfl) rfl 2 rfl rfl ?_
          refine j_ldI (q := 106) hx (dc kX12_outcome_0 55 rfl) rfl (fun v14 => ?_)
          refine j_icmp_neS (q := 109) (tgt := 113) hx (dc kX12_outcome_0 56 rfl) (by decide) rfl ?_ ?_
          · exact j_sub [0, 1, 2, 4] rfl (hb113 x0 x2 x3 x5 x4 h)
          · refine j_iconst (q := 110) (v := (1 : Int32)) hx (dc kX12_outcome_0 57 rfl) (by decide) rfl ?_
            refine j_goto (q := 114) hx (dc kX12_outcome_0 58 rfl) (by decide) ?_
            exact j_sub [0, 1, 2, 4] rfl (hb114 x0 x2 x3 x5 x4 (1 : Int32) h)
    exact j_loop (S := (Int32 × Int32)) (lvf := fun s => [(0, vR x.2.2.2 x0), (2, .int x2), (3, .int x3), (4, .int s.1), (5, .int s.2)]) (hpf := fun s => h) (f := (fun s : (Int32 × Int32) => mX12_outcome_l74f x0 x2 x3 h s.1 s.2)) (fun s => hB s.1 s.2) (x4, x5)
  have hb30 : ∀ (x0 : Nat) (x1 : Int32) (x2 : Int32) (x3 : Int32) (x4 : Int32) (h : Hp), J x 30 [(0, vR x.2.2.2 x0), (1, .int x1), (2, .int x2), (3, .int x3), (4, .int x4)] [] h (mX12_outcome_l30 x0 x1 x2 x3 x4 h) (fun r => r = u) := by
    intro x0 x1 x2 x3 x4 h
    have hB : ∀ (x3 : Int32) (x4 : Int32), J x 30 [(0, vR x.2.2.2 x0), (1, .int x1), (2, .int x2), (3, .int x3), (4, .int x4)] [] h (mX12_outcome_l30f x0 x1 x2 h x3 x4) (TL (S := (Int32 × Int32)) x 30 (fun s => [(0, vR x.2.2.2 x0), (1, .int x1), (2, .int x2), (3, .int s.1), (4, .int s.2)]) [] (fun s => h) (fun r => r = u)) := by
      intro x3 x4
      have hb39 : ∀ (x0 : Nat) (x1 : Int32) (x2 : Int32) (x3 : Int32) (x4 : Int32) (h : Hp), J x 39 [(0, vR x.2.2.2 x0), (1, .int x1), (2, .int x2), (3, .int x3), (4, .int x4)] [] h (mX12_outcome_l39 x0 x1 x2 x3 x4 h) (TL (S := (Int32 × Int32)) x 30 (fun s => [(0, vR x.2.2.2 x0), (1, .int x1), (2, .int x2), (3, .int s.1), (4, .int s.2)]) [] (fun s => h) (fun r => r = u)) := by
        intro x0 x1 x2 x3 x4 h
        have hB : ∀ (x3 : Int32), J x 39 [(0, vR x.2.2.2 x0), (1, .int x1), (2, .int x2), (3, .int x3), (4, .int x4)] [] h (mX12_outcome_l39f x0 x1 x2 x4 h x3) (TL (S := Int32) x 39 (fun s => [(0, vR x.2.2.2 x0), (1, .int x1), (2, .int x2), (3, .int s), (4, .int x4)]) [] (fun s => h) (TL (S := (Int32 × Int32)) x 30 (fun s => [(0, vR x.2.2.2 x0), (1, .int x1), (2, .int x2), (3, .int s.1), (4, .int s.2)]) [] (fun s => h) (fun r => r = u))) := by
          intro x3
          have hb56 : ∀ (x0 : Nat) (x1 : Int32) (x2 : Int32) (x3 : Int32) (x4 : Int32) (h : Hp), J x 56 [(0, vR x.2.2.2 x0), (1, .int x1), (2, .int x2), (3, .int x3), (4, .int x4)] [] h (mX12_outcome_b56 x0 x1 x2 x3 x4 h) (TL (S := Int32) x 39 (fun s => [(0, vR x.2.2.2 x0), (1, .int x1), (2, .int x2), (3, .int s), (4, .int x4)]) [] (fun s => h) (TL (S := (Int32 × Int32)) x 30 (fun s => [(0, vR x.2.2.2 x0), (1, .int x1), (2, .int x2), (3, .int s.1), (4, .int s.2)]) [] (fun s => h) (fun r => r = u))) := by
            intro x0 x1 x2 x3 x4 h
            unfold mX12_outcome_b56
            refine j_iinc (q := 59) (l2 := [(0, vR x.2.2.2 x0), (1, .int x1), (2, .int x2), (4, .int x4)]) hx (dc kX12_outcome_0 32 rfl) 3 rfl (v := (1 : Int32)) (by decide) (hn 3 (by decide)) [0, 1, 2, 4] rfl ⟨⟨show (0 : Nat) ≠ 3 by decide, Or.inl (show (0 : Nat) + 1 ≠ 3 by decide)⟩, ⟨⟨show (1 : Nat) ≠ 3 by decide, Or.inl (show (1 : Nat) + 1 ≠ 3 by decide)⟩, ⟨⟨show (2 : Nat) ≠ 3 by decide, Or.inr rfl⟩, ⟨⟨show (4 : Nat) ≠ 3 by decide, Or.inl (show (4 : Nat) + 1 ≠ 3 by decide)⟩, trivial⟩⟩⟩⟩ rfl ?_
            refine j_goto (q := 39) hx (dc kX12_outcome_0 33 rfl) (by decide) ?_
            exact j_back [1, 2, 3, 0, 4] (x3 + (1 : Int32)) rfl rfl
          unfold mX12_outcome_l39f
          refine j_aload_n (q := 40) hx (dc kX12_outcome_0 23 rfl) rfl 0 rfl rfl ?_
          refine j_iload_n (q := 41) hx (dc kX12_outcome_0 24 rfl) rfl 3 rfl rfl ?_
          refine w_cVIR (q := 44) (As := [.int x3]) (st := []) hx (dc kX12_outcome_0 25 rfl) cf12 (by decide) rfl (cI _ my_X12_isLeft lm_X12_398 (by decide)) vs_X12_isLeft rfl (fun u hu => sX12_isLeft _ _ _ _ _ _ hu) (fun e => ite_ne (by unfold mX12_isLeft at e; exact e)) (Nat.zero_le _) rfl (fun v15 => ?_)
          refine j_if_eq (q := 47) (tgt := 56) hx (dc kX12_outcome_0 26 rfl) (by decide) Iff.rfl rfl ?_ ?_
          · exact hb56 x0 x1 x2 x3 x4 h
          · refine j_aload_n (q := 48) hx (dc kX12_outcome_0 27 rfl) rfl 0 rfl rfl ?_
            refine j_iload_n (q := 49) hx (dc kX12_outcome_0 28 rfl) rfl 3 rfl rfl ?_
            refine w_cVIR (q := 52) (As := [.int x3]) (st := []) hx (dc kX12_outcome_0 29 rfl) cf12 (by decide) rfl (cI _ my_X12_firstLike lm_X12_496 (by decide)) vs_X12_firstLike rfl (fun u hu => sX12_firstLike _ _ _ _ _ _ hu) (fun e => ite_ne (by unfold mX12_firstLike at e; exact e)) (Nat.zero_le _) rfl (fun v17 => ?_)
            refine j_iload_n (q := 53) hx (dc kX12_outcome_0 30 rfl) rfl 3 rfl rfl ?_
            refine j_icmp_eq (q := 56) (tgt := 62) hx (dc kX12_outcome_0 31 rfl) (by decide) Iff.rfl rfl ?_ ?_
            · refine j_exit ?_
              refine j_iinc (q := 65) (l2 := [(0, vR x.2.2.2 x0), (1, .int x1), (2, .int x2), (3, .int x3)]) hx (dc kX12_outcome_0 34 rfl) 4 rfl (v := (1 : Int32)) (by decide) (hn 4 (by decide)) [0, 1, 2, 3] rfl ⟨⟨show (0 : Nat) ≠ 4 by decide, Or.inl (show (0 : Nat) + 1 ≠ 4 by decide)⟩, ⟨⟨show (1 : Nat) ≠ 4 by decide, Or.inl (show (1 : Nat) + 1 ≠ 4 by decide)⟩, ⟨⟨show (2 : Nat) ≠ 4 by decide, Or.inl (show (2 : Nat) + 1 ≠ 4 by decide)⟩, ⟨⟨show (3 : Nat) ≠ 4 by decide, Or.inr rfl⟩, trivial⟩⟩⟩⟩ rfl ?_
              refine j_goto (q := 30) hx (dc kX12_outcome_0 35 rfl) (by decide) ?_
              exact j_back [1, 2, 3, 4, 0] (x3, (x4 + (1 : Int32))) rfl rfl
            · exact hb56 x0 x1 x2 x3 x4 h
        exact j_loop (S := Int32) (lvf := fun s => [(0, vR x.2.2.2 x0), (1, .int x1), (2, .int x2), (3, .int s), (4, .int x4)]) (hpf := fun s => h) (f := (fun s : Int32 => mX12_outcome_l39f x0 x1 x2 x4 h s)) (fun s => hB s) x3
      unfold mX12_outcome_l30f
      refine j_iload (q := 32) hx (dc kX12_outcome_0 19 rfl) 4 rfl rfl ?_
      refine j_iload_n (q := 33) hx (dc kX12_outcome_0 20 rfl) rfl 1 rfl rfl ?_
      refine j_icmp_gt (q := 36) (tgt := 68) hx (dc kX12_outcome_0 21 rfl) (by decide) Iff.rfl rfl ?_ ?_
      · refine j_exit ?_
        refine j_iconst (q := 69) (v := (0 : Int32)) hx (dc kX12_outcome_0 36 rfl) (by decide) rfl ?_
        refine j_istore (q := 71) (i := 4) (l2 := [(0, vR x.2.2.2 x0), (2, .int x2), (3, .int x3)]) hx (dc kX12_outcome_0 37 rfl) (hn 4 (by decide)) [0, 2, 3] rfl ⟨⟨show (0 : Nat) ≠ 4 by decide, Or.inl (show (0 : Nat) + 1 ≠ 4 by decide)⟩, ⟨⟨show (2 : Nat) ≠ 4 by decide, Or.inl (show (2 : Nat) + 1 ≠ 4 by decide)⟩, ⟨⟨show (3 : Nat) ≠ 4 by decide, Or.inr rfl⟩, trivial⟩⟩⟩ rfl ?_
        refine j_iconst (q := 72) (v := (0 : Int32)) hx (dc kX12_outcome_0 38 rfl) (by decide) rfl ?_
        refine j_istore (q := 74) (i := 5) (l2 := [(4, .int (0 : Int32)), (0, vR x.2.2.2 x0), (2, .int x2), (3, .int x3)]) hx (dc kX12_outcome_0 39 rfl) (hn 5 (by decide)) [0, 1, 2, 3] rfl ⟨⟨show (4 : Nat) ≠ 5 by decide, Or.inr rfl⟩, ⟨⟨show (0 : Nat) ≠ 5 by decide, Or.inl (show (0 : Nat) + 1 ≠ 5 by decide)⟩, ⟨⟨show (2 : Nat) ≠ 5 by decide, Or.inl (show (2 : Nat) + 1 ≠ 5 by decide)⟩, ⟨⟨show (3 : Nat) ≠ 5 by decide, Or.inl (show (3 : Nat) + 1 ≠ 5 by decide)⟩, trivial⟩⟩⟩⟩ rfl ?_
        exact j_sub [2, 3, 4, 1, 0] rfl (hb74 x0 x2 x3 (0 : Int32) (0 : Int32) h)
      · refine j_iinc (q := 39) (l2 := [(0, vR x.2.2.2 x0), (1, .int x1), (2, .int x2), (4, .int x4)]) hx (dc kX12_outcome_0 22 rfl) 3 rfl (v := (1 : Int32)) (by decide) (hn 3 (by decide)) [0, 1, 2, 4] rfl ⟨⟨show (0 : Nat) ≠ 3 by decide, Or.inl (show (0 : Nat) + 1 ≠ 3 by decide)⟩, ⟨⟨show (1 : Nat) ≠ 3 by decide, Or.inl (show (1 : Nat) + 1 ≠ 3 by decide)⟩, ⟨⟨show (2 : Nat) ≠ 3 by decide, Or.inr rfl⟩, ⟨⟨show (4 : Nat) ≠ 3 by decide, Or.inl (show (4 : Nat) + 1 ≠ 3 by decide)⟩, trivial⟩⟩⟩⟩ rfl ?_
        exact j_sub [1, 2, 3, 0, 4] rfl (hb39 x0 x1 x2 (x3 + (1 : Int32)) x4 h)
    exact j_loop (S := (Int32 × Int32)) (lvf := fun s => [(0, vR x.2.2.2 x0), (1, .int x1), (2, .int x2), (3, .int s.1), (4, .int s.2)]) (hpf := fun s => h) (f := (fun s : (Int32 × Int32) => mX12_outcome_l30f x0 x1 x2 h s.1 s.2)) (fun s => hB s.1 s.2) (x3, x4)
  unfold mX12_outcome
  refine J.ckd fun hck => ?_
  refine j_iload_n (q := 1) hx (dc kX12_outcome_0 0 rfl) rfl 2 rfl rfl ?_
  refine j_iconst (q := 2) (v := (0 : Int32)) hx (dc kX12_outcome_0 1 rfl) (by decide) rfl ?_
  refine j_iconst (q := 3) (v := (2 : Int32)) hx (dc kX12_outcome_0 2 rfl) (by decide) rfl ?_
  refine w_cSIR (q := 6) (As := [.int x2, .int (0 : Int32), .int (2 : Int32)]) (st := []) hx (dc kX12_outcome_0 3 rfl) (cI _ my_X12_in lm_X12_85 (by decide)) st_X12_in rfl (fun u hu => sX12_in _ _ _ _ _ _ _ hu) (Nat.zero_le _) rfl (fun v1 => ?_)
  refine j_if_eq (q := 9) (tgt := 23) hx (dc kX12_outcome_0 4 rfl) (by decide) Iff.rfl rfl ?_ ?_
  · refine j_iconst (q := 24) (v := (-1 : Int32)) hx (dc kX12_outcome_0 13 rfl) (by decide) rfl ?_
    exact r_iW hx hR (dc kX12_outcome_0 14 rfl)
  · refine j_iload_n (q := 10) hx (dc kX12_outcome_0 5 rfl) rfl 1 rfl rfl ?_
    refine j_iconst (q := 11) (v := (0 : Int32)) hx (dc kX12_outcome_0 6 rfl) (by decide) rfl ?_
    refine j_aload_n (q := 12) hx (dc kX12_outcome_0 7 rfl) rfl 0 rfl rfl ?_
    refine w_cVIW (q := 15) (As := []) (st := [.int (0 : Int32), .int x1]) hx (dc kX12_outcome_0 8 rfl) cf12 (by decide) rfl (cI _ my_X12_outcomes lm_X12_499 (by decide)) vs_X12_outcomes rfl (fun u hu => sX12_outcomes _ _ _ _ _ hu) (fun e => ite_ne (by unfold mX12_outcomes at e; exact e)) (sum_le (sum_I (sum_I sum_nil)) (by decide)) rfl (fun v3 h4 => ?_)
    refine j_iconst (q := 16) (v := (1 : Int32)) hx (dc kX12_outcome_0 9 rfl) (by decide) rfl ?_
    refine j_isub (q := 17) hx (dc kX12_outcome_0 10 rfl) rfl ?_
    refine w_cSIR (q := 20) (As := [.int x1, .int (0 : Int32), .int (v3 - (1 : Int32))]) (st := []) hx (dc kX12_outcome_0 11 rfl) (cI _ my_X12_in lm_X12_85 (by decide)) st_X12_in rfl (fun u hu => sX12_in _ _ _ _ _ _ _ hu) (Nat.zero_le _) rfl (fun v5 => ?_)
    refine j_if_neS (q := 23) (tgt := 25) hx (dc kX12_outcome_0 12 rfl) (by decide) rfl ?_ ?_
    · refine j_iconst (q := 26) (v := (-1 : Int32)) hx (dc kX12_outcome_0 15 rfl) (by decide) rfl ?_
      refine j_istore_n (q := 27) (i := 3) (l2 := [(0, vR x.2.2.2 x0), (1, .int x1), (2, .int x2)]) hx (dc kX12_outcome_0 16 rfl) rfl (hn 3 (by decide)) [0, 1, 2] rfl ⟨⟨show (0 : Nat) ≠ 3 by decide, Or.inl (show (0 : Nat) + 1 ≠ 3 by decide)⟩, ⟨⟨show (1 : Nat) ≠ 3 by decide, Or.inl (show (1 : Nat) + 1 ≠ 3 by decide)⟩, ⟨⟨show (2 : Nat) ≠ 3 by decide, Or.inr rfl⟩, trivial⟩⟩⟩ rfl ?_
      refine j_iconst (q := 28) (v := (0 : Int32)) hx (dc kX12_outcome_0 17 rfl) (by decide) rfl ?_
      refine j_istore (q := 30) (i := 4) (l2 := [(3, .int (-1 : Int32)), (0, vR x.2.2.2 x0), (1, .int x1), (2, .int x2)]) hx (dc kX12_outcome_0 18 rfl) (hn 4 (by decide)) [0, 1, 2, 3] rfl ⟨⟨show (3 : Nat) ≠ 4 by decide, Or.inr rfl⟩, ⟨⟨show (0 : Nat) ≠ 4 by decide, Or.inl (show (0 : Nat) + 1 ≠ 4 by decide)⟩, ⟨⟨show (1 : Nat) ≠ 4 by decide, Or.inl (show (1 : Nat) + 1 ≠ 4 by decide)⟩, ⟨⟨show (2 : Nat) ≠ 4 by decide, Or.inl (show (2 : Nat) + 1 ≠ 4 by decide)⟩, trivial⟩⟩⟩⟩ rfl ?_
      exact j_sub [2, 3, 4, 1, 0] rfl (hb30 x0 x1 x2 (-1 : Int32) (0 : Int32) h4)
    · refine j_iconst (q := 24) (v := (-1 : Int32)) hx (dc kX12_outcome_0 13 rfl) (by decide) rfl ?_
      exact r_iW hx hR (dc kX12_outcome_0 14 rfl)

set_option maxHeartbeats 4000000 in
set_option maxRecDepth 100000 in
theorem sX12_together (l : Launch) (w : Wd) (x0 : Nat) (x1 : Int32) (h : Hp) (u : Int32) (hK : mX12_together x0 x1 h = some u) : M1 l w mi_X12_together 3 [vR w x0, .int x1] h h (some (.int u)) := by
  refine M1.of (own := RX12) (T := fun _ r => r = u) hK (by decide +kernel) rfl (by first | (simp only [lg_lenR, lg_lenI, lg_lenL, lg_len0]; decide) | decide) (fun x hx hnl hhf hl hw hret hnm hQ h0e => ⟨?_, rfl⟩)
  subst hw
  subst hl
  have hR : Rt x h h (some (.int u)) ((some .int)) := ⟨h0e, hhf, hret, hQ⟩
  have hn : ∀ i, i < 5 → i < x.2.2.1.1.1 := fun i hi => by rw [hnl]; exact hi
  have e0 : lv_args 0 [vR x.2.2.2 x0, .int x1] = [(0, vR x.2.2.2 x0), (1, .int x1)] := by simp only [lv_argsR, lv_argsI, lv_argsL, lv_args0]
  rw [e0]
  have hb20 : ∀ (x0 : Nat) (x1 : Int32) (x2 : Int32), J x 20 [(0, vR x.2.2.2 x0), (1, .int x1), (2, .int x2)] [] h (mX12_together_l20 x0 x1 x2 h) (fun r => r = u) := by
    intro x0 x1 x2
    have hB : ∀ (x2 : Int32), J x 20 [(0, vR x.2.2.2 x0), (1, .int x1), (2, .int x2)] [] h (mX12_together_l20f x0 x1 h x2) (TL (S := Int32) x 20 (fun s => [(0, vR x.2.2.2 x0), (1, .int x1), (2, .int s)]) [] (fun s => h) (fun r => r = u)) := by
      intro x2
      have hb83 : ∀ (x0 : Nat) (x1 : Int32) (x2 : Int32) (x3 : Int32), J x 83 [(0, vR x.2.2.2 x0), (1, .int x1), (2, .int x2), (3, .int x3)] [] h (mX12_together_b83 x0 x1 x2 x3 h) (TL (S := Int32) x 20 (fun s => [(0, vR x.2.2.2 x0), (1, .int x1), (2, .int s)]) [] (fun s => h) (fun r => r = u)) := by
        intro x0 x1 x2 x3
        unfold mX12_together_b83
        refine j_iload_n (q := 84) hx (dc kX12_together_0 45 rfl) rfl 3 rfl rfl ?_
        refine j_if_eq (q := 87) (tgt := 89) hx (dc kX12_together_0 46 rfl) (by decide) Iff.rfl rfl ?_ ?_
        · refine j_iinc (q := 92) (l2 := [(0, vR x.2.2.2 x0), (1, .int x1)]) hx (dc kX12_together_0 49 rfl) 2 rfl (v := (1 : Int32)) (by decide) (hn 2 (by decide)) [0, 1] rfl ⟨⟨show (0 : Nat) ≠ 2 by decide, Or.inl (show (0 : Nat) + 1 ≠ 2 by decide)⟩, ⟨⟨show (1 : Nat) ≠ 2 by decide, Or.inr rfl⟩, trivial⟩⟩ rfl ?_
          refine j_goto (q := 20) hx (dc kX12_together_0 50 rfl) (by decide) ?_
          exact j_back [1, 2, 0] (x2 + (1 : Int32)) rfl rfl
        · refine j_exit ?_
          refine j_iconst (q := 88) (v := (1 : Int32)) hx (dc kX12_together_0 47 rfl) (by decide) rfl ?_
          exact r_iR hx hR (dc kX12_together_0 48 rfl)
      have hb36 : ∀ (x0 : Nat) (x1 : Int32) (x2 : Int32) (x3 : Int32) (x4 : Int32), J x 36 [(0, vR x.2.2.2 x0), (1, .int x1), (2, .int x2), (3, .int x3), (4, .int x4)] [] h (mX12_together_l36 x0 x1 x2 x3 x4 h) (TL (S := Int32) x 20 (fun s => [(0, vR x.2.2.2 x0), (1, .int x1), (2, .int s)]) [] (fun s => h) (fun r => r = u)) := by
        intro x0 x1 x2 x3 x4
        have hB : ∀ (x3 : Int32) (x4 : Int32), J x 36 [(0, vR x.2.2.2 x0), (1, .int x1), (2, .int x2), (3, .int x3), (4, .int x4)] [] h (mX12_together_l36f x0 x1 x2 h x3 x4) (TL (S := (Int32 × Int32)) x 36 (fun s => [(0, vR x.2.2.2 x0), (1, .int x1), (2, .int x2), (3, .int s.1), (4, .int s.2)]) [] (fun s => h) (TL (S := Int32) x 20 (fun s => [(0, vR x.2.2.2 x0), (1, .int x1), (2, .int s)]) [] (fun s => h) (fun r => r = u))) := by
          intro x3 x4
          have hb76 : ∀ (x0 : Nat) (x1 : Int32) (x2 : Int32) (x4 : Int32) (t0 : Int32), J x 76 [(0, vR x.2.2.2 x0), (1, .int x1), (2, .int x2), (4, .int x4)] [.int t0] h (mX12_together_b76 x0 x1 x2 x4 t0 h) (TL (S := (Int32 × Int32)) x 36 (fun s => [(0, vR x.2.2.2 x0), (1, .int x1), (2, .int x2), (3, .int s.1), (4, .int s.2)]) [] (fun s => h) (TL (S := Int32) x 20 (fun s => [(0, vR x.2.2.2 x0), (1, .int x1), (2, .int s)]) [] (fun s => h) (fun r => r = u))) := by
            intro x0 x1 x2 x4 t0
            unfold mX12_together_b76
            refine j_istore_n (q := 77) (i := 3) (l2 := [(0, vR x.2.2.2 x0), (1, .int x1), (2, .int x2), (4, .int x4)]) hx (dc kX12_together_0 42 rfl) rfl (hn 3 (by decide)) [0, 1, 2, 3] rfl ⟨⟨show (0 : Nat) ≠ 3 by decide, Or.inl (show (0 : Nat) + 1 ≠ 3 by decide)⟩, ⟨⟨show (1 : Nat) ≠ 3 by decide, Or.inl (show (1 : Nat) + 1 ≠ 3 by decide)⟩, ⟨⟨show (2 : Nat) ≠ 3 by decide, Or.inr rfl⟩, ⟨⟨show (4 : Nat) ≠ 3 by decide, Or.inl (show (4 : Nat) + 1 ≠ 3 by decide)⟩, trivial⟩⟩⟩⟩ rfl ?_
            refine j_iinc (q := 80) (l2 := [(3, .int t0), (0, vR x.2.2.2 x0), (1, .int x1), (2, .int x2)]) hx (dc kX12_together_0 43 rfl) 4 rfl (v := (1 : Int32)) (by decide) (hn 4 (by decide)) [0, 1, 2, 3] rfl ⟨⟨show (3 : Nat) ≠ 4 by decide, Or.inr rfl⟩, ⟨⟨show (0 : Nat) ≠ 4 by decide, Or.inl (show (0 : Nat) + 1 ≠ 4 by decide)⟩, ⟨⟨show (1 : Nat) ≠ 4 by decide, Or.inl (show (1 : Nat) + 1 ≠ 4 by decide)⟩, ⟨⟨show (2 : Nat) ≠ 4 by decide, Or.inl (show (2 : Nat) + 1 ≠ 4 by decide)⟩, trivial⟩⟩⟩⟩ rfl ?_
            refine j_goto (q := 36) hx (dc kX12_together_0 44 rfl) (by decide) ?_
            exact j_back [2, 3, 4, 1, 0] (t0, (x4 + (1 : Int32))) rfl rfl
          have hb71 : ∀ (x0 : Nat) (x1 : Int32) (x2 : Int32) (x4 : Int32), J x 71 [(0, vR x.2.2.2 x0), (1, .int x1), (2, .int x2), (4, .int x4)] [] h (mX12_together_b71 x0 x1 x2 x4 h) (TL (S := (Int32 × Int32)) x 36 (fun s => [(0, vR x.2.2.2 x0), (1, .int x1), (2, .int x2), (3, .int s.1), (4, .int s.2)]) [] (fun s => h) (TL (S := Int32) x 20 (fun s => [(0, vR x.2.2.2 x0), (1, .int x1), (2, .int s)]) [] (fun s => h) (fun r => r = u))) := by
            intro x0 x1 x2 x4
            unfold mX12_together_b71
            refine j_iconst (q := 72) (v := (1 : Int32)) hx (dc kX12_together_0 39 rfl) (by decide) rfl ?_
            refine j_goto (q := 76) hx (dc kX12_together_0 40 rfl) (by decide) ?_
            exact hb76 x0 x1 x2 x4 (1 : Int32)
          unfold mX12_together_l36f
          refine j_iload (q := 38) hx (dc kX12_together_0 22 rfl) 4 rfl rfl ?_
          refine j_aload_n (q := 39) hx (dc kX12_together_0 23 rfl) rfl 0 rfl rfl ?_
          refine w_gR (q := 42) hx (dc kX12_together_0 24 rfl) ff_X12_4 lk_X12_23 rfl (fun v5 => ?_)
          refine j_bipush (q := 44) (v := (18 : Int32)) hx (dc kX12_together_0 25 rfl) (by decide) rfl ?_
          refine j_ldI (q := 45) hx (dc kX12_together_0 26 rfl) rfl (fun v6 => ?_)
          refine j_icmp_geS (q := 48) (tgt := 83) hx (dc kX12_together_0 27 rfl) (by decide) rfl ?_ ?_
          · refine j_exit ?_
            exact j_sub [0, 1, 2, 3] rfl (hb83 x0 x1 x2 x3)
          · refine j_iload_n (q := 49) hx (dc kX12_together_0 28 rfl) rfl 3 rfl rfl ?_
            refine j_if_eq (q := 52) (tgt := 83) hx (dc kX12_together_0 29 rfl) (by decide) Iff.rfl rfl ?_ ?_
            · refine j_exit ?_
              exact j_sub [0, 1, 2, 3] rfl (hb83 x0 x1 x2 x3)
            · refine j_iload_n (q := 53) hx (dc kX12_together_0 30 rfl) rfl 1 rfl rfl ?_
              refine j_iload (q := 55) hx (dc kX12_together_0 31 rfl) 4 rfl rfl ?_
              refine w_cSIR (q := 58) (As := [.int x1, .int x4]) (st := []) hx (dc kX12_together_0 32 rfl) (cI _ my_X12_has lm_X12_239 (by decide)) st_X12_has rfl (fun u hu => sX12_has _ _ _ _ _ _ hu) (Nat.zero_le _) rfl (fun v7 => ?_)
              refine j_if_eq (q := 61) (tgt := 71) hx (dc kX12_together_0 33 rfl) (by decide) Iff.rfl rfl ?_ ?_
              · exact j_sub [0, 1, 2, 4] rfl (hb71 x0 x1 x2 x4)
              · refine j_aload_n (q := 62) hx (dc kX12_together_0 34 rfl) rfl 0 rfl rfl ?_
                refine j_iload (q := 64) hx (dc kX12_together_0 35 rfl) 4 rfl rfl ?_
                refine j_iload_n (q := 65) hx (dc kX12_together_0 36 rfl) rfl 2 rfl rfl ?_
                refine w_cVIR (q := 68) (As := [.int x4, .int x2]) (st := []) hx (dc kX12_together_0 37 rfl) cf12 (by decide) rfl (cI _ my_X12_isWon lm_X12_416 (by decide)) vs_X12_isWon rfl (fun u hu => sX12_isWon _ _ _ _ _ _ _ hu) (fun e => ite_ne (by unfold mX12_isWon at e; exact e)) (Nat.zero_le _) rfl (fun v9 => ?_)
                refine j_if_eq (q := 71) (tgt := 75) hx (dc kX12_together_0 38 rfl) (by decide) Iff.rfl rfl ?_ ?_
                · refine j_iconst (q := 76) (v := (0 : Int32)) hx (dc kX12_together_0 41 rfl) (by decide) rfl ?_
                  exact j_sub [0, 1, 2, 4] rfl (hb76 x0 x1 x2 x4 (0 : Int32))
                · exact j_sub [0, 1, 2, 4] rfl (hb71 x0 x1 x2 x4)
        exact j_loop (S := (Int32 × Int32)) (lvf := fun s => [(0, vR x.2.2.2 x0), (1, .int x1), (2, .int x2), (3, .int s.1), (4, .int s.2)]) (hpf := fun s => h) (f := (fun s : (Int32 × Int32) => mX12_together_l36f x0 x1 x2 h s.1 s.2)) (fun s => hB s.1 s.2) (x3, x4)
      unfold mX12_together_l20f
      refine j_iload_n (q := 21) hx (dc kX12_together_0 13 rfl) rfl 2 rfl rfl ?_
      refine j_sipush (q := 24) (v := (256 : Int32)) hx (dc kX12_together_0 14 rfl) (by decide) rfl ?_
      refine j_icmp_geS (q := 27) (tgt := 95) hx (dc kX12_together_0 15 rfl) (by decide) rfl ?_ ?_
      · refine j_exit ?_
        refine j_iconst (q := 96) (v := (0 : Int32)) hx (dc kX12_together_0 51 rfl) (by decide) rfl ?_
        exact r_iR hx hR (dc kX12_together_0 52 rfl)
      · refine j_aload_n (q := 28) hx (dc kX12_together_0 16 rfl) rfl 0 rfl rfl ?_
        refine j_iload_n (q := 29) hx (dc kX12_together_0 17 rfl) rfl 2 rfl rfl ?_
        refine w_cVIR (q := 32) (As := [.int x2]) (st := []) hx (dc kX12_together_0 18 rfl) cf12 (by decide) rfl (cI _ my_X12_isLeft lm_X12_398 (by decide)) vs_X12_isLeft rfl (fun u hu => sX12_isLeft _ _ _ _ _ _ hu) (fun e => ite_ne (by unfold mX12_isLeft at e; exact e)) (Nat.zero_le _) rfl (fun v3 => ?_)
        refine j_istore_n (q := 33) (i := 3) (l2 := [(0, vR x.2.2.2 x0), (1, .int x1), (2, .int x2)]) hx (dc kX12_together_0 19 rfl) rfl (hn 3 (by decide)) [0, 1, 2] rfl ⟨⟨show (0 : Nat) ≠ 3 by decide, Or.inl (show (0 : Nat) + 1 ≠ 3 by decide)⟩, ⟨⟨show (1 : Nat) ≠ 3 by decide, Or.inl (show (1 : Nat) + 1 ≠ 3 by decide)⟩, ⟨⟨show (2 : Nat) ≠ 3 by decide, Or.inr rfl⟩, trivial⟩⟩⟩ rfl ?_
        refine j_iconst (q := 34) (v := (0 : Int32)) hx (dc kX12_together_0 20 rfl) (by decide) rfl ?_
        refine j_istore (q := 36) (i := 4) (l2 := [(3, .int v3), (0, vR x.2.2.2 x0), (1, .int x1), (2, .int x2)]) hx (dc kX12_together_0 21 rfl) (hn 4 (by decide)) [0, 1, 2, 3] rfl ⟨⟨show (3 : Nat) ≠ 4 by decide, Or.inr rfl⟩, ⟨⟨show (0 : Nat) ≠ 4 by decide, Or.inl (show (0 : Nat) + 1 ≠ 4 by decide)⟩, ⟨⟨show (1 : Nat) ≠ 4 by decide, Or.inl (show (1 : Nat) + 1 ≠ 4 by decide)⟩, ⟨⟨show (2 : Nat) ≠ 4 by decide, Or.inl (show (2 : Nat) + 1 ≠ 4 by decide)⟩, trivial⟩⟩⟩⟩ rfl ?_
        exact j_sub [2, 3, 4, 1, 0] rfl (hb36 x0 x1 x2 v3 (0 : Int32))
    exact j_loop (S := Int32) (lvf := fun s => [(0, vR x.2.2.2 x0), (1, .int x1), (2, .int s)]) (hpf := fun s => h) (f := (fun s : Int32 => mX12_together_l20f x0 x1 h s)) (fun s => hB s) x2
  unfold mX12_together
  refine J.ckd fun hck => ?_
  refine j_iload_n (q := 1) hx (dc kX12_together_0 0 rfl) rfl 1 rfl rfl ?_
  refine j_if_lt (q := 4) (tgt := 16) hx (dc kX12_together_0 1 rfl) (by decide) Iff.rfl rfl ?_ ?_
  · refine j_iconst (q := 17) (v := (-1 : Int32)) hx (dc kX12_together_0 9 rfl) (by decide) rfl ?_
    exact r_iR hx hR (dc kX12_together_0 10 rfl)
  · refine j_iload_n (q := 5) hx (dc kX12_together_0 2 rfl) rfl 1 rfl rfl ?_
    refine j_aload_n (q := 6) hx (dc kX12_together_0 3 rfl) rfl 0 rfl rfl ?_
    refine w_gR (q := 9) hx (dc kX12_together_0 4 rfl) ff_X12_4 lk_X12_23 rfl (fun v1 => ?_)
    refine j_bipush (q := 11) (v := (18 : Int32)) hx (dc kX12_together_0 5 rfl) (by decide) rfl ?_
    refine j_ldI (q := 12) hx (dc kX12_together_0 6 rfl) rfl (fun v2 => ?_)
    refine j_ishr (q := 13) hx (dc kX12_together_0 7 rfl) rfl ?_
    refine j_if_eq (q := 16) (tgt := 18) hx (dc kX12_together_0 8 rfl) (by decide) Iff.rfl rfl ?_ ?_
    · refine j_iconst (q := 19) (v := (0 : Int32)) hx (dc kX12_together_0 11 rfl) (by decide) rfl ?_
      refine j_istore_n (q := 20) (i := 2) (l2 := [(0, vR x.2.2.2 x0), (1, .int x1)]) hx (dc kX12_together_0 12 rfl) rfl (hn 2 (by decide)) [0, 1] rfl ⟨⟨show (0 : Nat) ≠ 2 by decide, Or.inl (show (0 : Nat) + 1 ≠ 2 by decide)⟩, ⟨⟨show (1 : Nat) ≠ 2 by decide, Or.inr rfl⟩, trivial⟩⟩ rfl ?_
      exact j_sub [1, 2, 0] rfl (hb20 x0 x1 (0 : Int32))
    · refine j_iconst (q := 17) (v := (-1 : Int32)) hx (dc kX12_together_0 9 rfl) (by decide) rfl ?_
      exact r_iR hx hR (dc kX12_together_0 10 rfl)

set_option maxHeartbeats 4000000 in
set_option maxRecDepth 100000 in
theorem sX12_elect (l : Launch) (w : Wd) (x0 : Nat) (x1 : Int32) (h : Hp) (u : (Int32 × Hp)) (hK : mX12_elect x0 x1 h = some u) : M1 l w mi_X12_elect 8 [vR w x0, .int x1] h u.2 (some (.int u.1)) := by
  refine M1.of (own := RX12) (T := fun _ r => r = u) hK (by decide +kernel) rfl (by first | (simp only [lg_lenR, lg_lenI, lg_lenL, lg_len0]; decide) | decide) (fun x hx hnl hhf hl hw hret hnm hQ h0e => ⟨?_, rfl⟩)
  subst hw
  subst hl
  have hR : Rt x h u.2 (some (.int u.1)) ((some .int)) := ⟨h0e, hhf, hret, hQ⟩
  have hn : ∀ i, i < 5 → i < x.2.2.1.1.1 := fun i hi => by rw [hnl]; exact hi
  have e0 : lv_args 0 [vR x.2.2.2 x0, .int x1] = [(0, vR x.2.2.2 x0), (1, .int x1)] := by simp only [lv_argsR, lv_argsI, lv_argsL, lv_args0]
  rw [e0]
  have hb19 : ∀ (x0 : Nat) (x1 : Int32) (x2 : Int32) (x3 : Int32) (h : Hp), J x 19 [(0, vR x.2.2.2 x0), (1, .int x1), (2, .int x2), (3, .int x3)] [] h (mX12_elect_l19 x0 x1 x2 x3 h) (fun r => r = u) := by
    intro x0 x1 x2 x3 h
    have hB : ∀ (x2 : Int32) (x3 : Int32), J x 19 [(0, vR x.2.2.2 x0), (1, .int x1), (2, .int x2), (3, .int x3)] [] h (mX12_elect_l19f x0 x1 h x2 x3) (TL (S := (Int32 × Int32)) x 19 (fun s => [(0, vR x.2.2.2 x0), (1, .int x1), (2, .int s.1), (3, .int s.2)]) [] (fun s => h) (fun r => r = u)) := by
      intro x2 x3
      have hb82 : ∀ (x0 : Nat) (x1 : Int32) (x3 : Int32) (t0 : Int32) (h : Hp), J x 82 [(0, vR x.2.2.2 x0), (1, .int x1), (3, .int x3)] [.int t0] h (mX12_elect_b82 x0 x1 x3 t0 h) (TL (S := (Int32 × Int32)) x 19 (fun s => [(0, vR x.2.2.2 x0), (1, .int x1), (2, .int s.1), (3, .int s.2)]) [] (fun s => h) (fun r => r = u)) := by
        intro x0 x1 x3 t0 h
        unfold mX12_elect_b82
        refine j_istore_n (q := 83) (i := 2) (l2 := [(0, vR x.2.2.2 x0), (1, .int x1), (3, .int x3)]) hx (dc kX12_elect_0 43 rfl) rfl (hn 2 (by decide)) [0, 1, 2] rfl ⟨⟨show (0 : Nat) ≠ 2 by decide, Or.inl (show (0 : Nat) + 1 ≠ 2 by decide)⟩, ⟨⟨show (1 : Nat) ≠ 2 by decide, Or.inr rfl⟩, ⟨⟨show (3 : Nat) ≠ 2 by decide, Or.inl (show (3 : Nat) + 1 ≠ 2 by decide)⟩, trivial⟩⟩⟩ rfl ?_
        refine j_iinc (q := 86) (l2 := [(2, .int t0), (0, vR x.2.2.2 x0), (1, .int x1)]) hx (dc kX12_elect_0 44 rfl) 3 rfl (v := (1 : Int32)) (by decide) (hn 3 (by decide)) [0, 1, 2] rfl ⟨⟨show (2 : Nat) ≠ 3 by decide, Or.inr rfl⟩, ⟨⟨show (0 : Nat) ≠ 3 by decide, Or.inl (show (0 : Nat) + 1 ≠ 3 by decide)⟩, ⟨⟨show (1 : Nat) ≠ 3 by decide, Or.inl (show (1 : Nat) + 1 ≠ 3 by decide)⟩, trivial⟩⟩⟩ rfl ?_
        refine j_goto (q := 19) hx (dc kX12_elect_0 45 rfl) (by decide) ?_
        exact j_back [2, 3, 1, 0] (t0, (x3 + (1 : Int32))) rfl rfl
      have hb76 : ∀ (x0 : Nat) (x1 : Int32) (x3 : Int32) (x4 : Int32) (h : Hp), J x 76 [(0, vR x.2.2.2 x0), (1, .int x1), (3, .int x3), (4, .int x4)] [] h (mX12_elect_b76 x0 x1 x3 x4 h) (TL (S := (Int32 × Int32)) x 19 (fun s => [(0, vR x.2.2.2 x0), (1, .int x1), (2, .int s.1), (3, .int s.2)]) [] (fun s => h) (fun r => r = u)) := by
        intro x0 x1 x3 x4 h
        unfold mX12_elect_b76
        refine j_iload (q := 78) hx (dc kX12_elect_0 40 rfl) 3 rfl rfl ?_
        refine j_goto (q := 82) hx (dc kX12_elect_0 41 rfl) (by decide) ?_
        exact j_sub [0, 1, 2] rfl (hb82 x0 x1 x3 x4 h)
      have hb81 : ∀ (x0 : Nat) (x1 : Int32) (x2 : Int32) (x3 : Int32) (h : Hp), J x 81 [(0, vR x.2.2.2 x0), (1, .int x1), (2, .int x2), (3, .int x3)] [] h (mX12_elect_b81 x0 x1 x2 x3 h) (TL (S := (Int32 × Int32)) x 19 (fun s => [(0, vR x.2.2.2 x0), (1, .int x1), (2, .int s.1), (3, .int s.2)]) [] (fun s => h) (fun r => r = u)) := by
        intro x0 x1 x2 x3 h
        unfold mX12_elect_b81
        refine j_iload_n (q := 82) hx (dc kX12_elect_0 42 rfl) rfl 2 rfl rfl ?_
        exact j_sub [0, 1, 3] rfl (hb82 x0 x1 x3 x2 h)
      have hb44 : ∀ (x0 : Nat) (x1 : Int32) (x2 : Int32) (x3 : Int32) (t0 : Int32) (h : Hp), J x 44 [(0, vR x.2.2.2 x0), (1, .int x1), (2, .int x2), (3, .int x3)] [.int t0] h (mX12_elect_b44 x0 x1 x2 x3 t0 h) (TL (S := (Int32 × Int32)) x 19 (fun s => [(0, vR x.2.2.2 x0), (1, .int x1), (2, .int s.1), (3, .int s.2)]) [] (fun s => h) (fun r => r = u)) := by
        intro x0 x1 x2 x3 t0 h
        unfold mX12_elect_b44
        refine j_istore (q := 46) (i := 4) (l2 := [(0, vR x.2.2.2 x0), (1, .int x1), (2, .int x2), (3, .int x3)]) hx (dc kX12_elect_0 26 rfl) (hn 4 (by decide)) [0, 1, 2, 3] rfl ⟨⟨show (0 : Nat) ≠ 4 by decide, Or.inl (show (0 : Nat) + 1 ≠ 4 by decide)⟩, ⟨⟨show (1 : Nat) ≠ 4 by decide, Or.inl (show (1 : Nat) + 1 ≠ 4 by decide)⟩, ⟨⟨show (2 : Nat) ≠ 4 by decide, Or.inl (show (2 : Nat) + 1 ≠ 4 by decide)⟩, ⟨⟨show (3 : Nat) ≠ 4 by decide, Or.inr rfl⟩, trivial⟩⟩⟩⟩ rfl ?_
        refine j_iload (q := 48) hx (dc kX12_elect_0 27 rfl) 0 rfl rfl ?_
        refine w_cSIR (q := 51) (As := [.int t0]) (st := []) hx (dc kX12_elect_0 28 rfl) (cI _ my_X12_bits lm_X12_315 (by decide)) st_X12_bits rfl (fun u hu => sX12_bits _ _ _ _ _ hu) (Nat.zero_le _) rfl (fun v9 => ?_)
        refine j_iload_n (q := 52) hx (dc kX12_elect_0 29 rfl) rfl 3 rfl rfl ?_
        refine w_cSIR (q := 55) (As := [.int x2]) (st := [.int v9]) hx (dc kX12_elect_0 30 rfl) (cI _ my_X12_bits lm_X12_315 (by decide)) st_X12_bits rfl (fun u hu => sX12_bits _ _ _ _ _ hu) (sum_le (sum_I sum_nil) (by decide)) rfl (fun v11 => ?_)
        refine j_icmp_gt (q := 58) (tgt := 76) hx (dc kX12_elect_0 31 rfl) (by decide) Iff.rfl rfl ?_ ?_
        · exact j_sub [1, 2, 4, 0] rfl (hb76 x0 x1 x3 t0 h)
        · refine j_iload (q := 60) hx (dc kX12_elect_0 32 rfl) 0 rfl rfl ?_
          refine w_cSIR (q := 63) (As := [.int t0]) (st := []) hx (dc kX12_elect_0 33 rfl) (cI _ my_X12_bits lm_X12_315 (by decide)) st_X12_bits rfl (fun u hu => sX12_bits _ _ _ _ _ hu) (Nat.zero_le _) rfl (fun v13 => ?_)
          refine j_iload_n (q := 64) hx (dc kX12_elect_0 34 rfl) rfl 3 rfl rfl ?_
          refine w_cSIR (q := 67) (As := [.int x2]) (st := [.int v13]) hx (dc kX12_elect_0 35 rfl) (cI _ my_X12_bits lm_X12_315 (by decide)) st_X12_bits rfl (fun u hu => sX12_bits _ _ _ _ _ hu) (sum_le (sum_I sum_nil) (by decide)) rfl (fun v15 => ?_)
          refine j_icmp_neS (q := 70) (tgt := 81) hx (dc kX12_elect_0 36 rfl) (by decide) rfl ?_ ?_
          · exact j_sub [1, 2, 3, 4] rfl (hb81 x0 x1 x2 x3 h)
          · refine j_iload (q := 72) hx (dc kX12_elect_0 37 rfl) 0 rfl rfl ?_
            refine j_iload_n (q := 73) hx (dc kX12_elect_0 38 rfl) rfl 3 rfl rfl ?_
            refine j_icmp_geS (q := 76) (tgt := 81) hx (dc kX12_elect_0 39 rfl) (by decide) rfl ?_ ?_
            · exact j_sub [1, 2, 3, 4] rfl (hb81 x0 x1 x2 x3 h)
            · exact j_sub [1, 2, 4, 0] rfl (hb76 x0 x1 x3 t0 h)
      unfold mX12_elect_l19f
      refine j_iload_n (q := 20) hx (dc kX12_elect_0 13 rfl) rfl 3 rfl rfl ?_
      refine j_sipush (q := 23) (v := (256 : Int32)) hx (dc kX12_elect_0 14 rfl) (by decide) rfl ?_
      refine j_icmp_geS (q := 26) (tgt := 89) hx (dc kX12_elect_0 15 rfl) (by decide) rfl ?_ ?_
      · refine j_exit ?_
        refine j_iload_n (q := 90) hx (dc kX12_elect_0 46 rfl) rfl 1 rfl rfl ?_
        refine j_if_neS (q := 93) (tgt := 100) hx (dc kX12_elect_0 47 rfl) (by decide) rfl ?_ ?_
        · refine j_iload_n (q := 101) hx (dc kX12_elect_0 51 rfl) rfl 2 rfl rfl ?_
          exact r_iW hx hR (dc kX12_elect_0 52 rfl)
        · refine j_iload_n (q := 94) hx (dc kX12_elect_0 48 rfl) rfl 2 rfl rfl ?_
          refine w_cSIR (q := 97) (As := [.int x2]) (st := []) hx (dc kX12_elect_0 49 rfl) (cI _ my_X12_bits lm_X12_315 (by decide)) st_X12_bits rfl (fun u hu => sX12_bits _ _ _ _ _ hu) (Nat.zero_le _) rfl (fun v5 => ?_)
          refine j_goto (q := 101) hx (dc kX12_elect_0 50 rfl) (by decide) ?_
          exact r_iW hx hR (dc kX12_elect_0 52 rfl)
      · refine j_aload_n (q := 27) hx (dc kX12_elect_0 16 rfl) rfl 0 rfl rfl ?_
        refine j_iload_n (q := 28) hx (dc kX12_elect_0 17 rfl) rfl 3 rfl rfl ?_
        refine w_cVIR (q := 31) (As := [.int x3]) (st := []) hx (dc kX12_elect_0 18 rfl) cf12 (by decide) rfl (cI _ my_X12_isLeft lm_X12_398 (by decide)) vs_X12_isLeft rfl (fun u hu => sX12_isLeft _ _ _ _ _ _ hu) (fun e => ite_ne (by unfold mX12_isLeft at e; exact e)) (Nat.zero_le _) rfl (fun v7 => ?_)
        refine j_if_eq (q := 34) (tgt := 43) hx (dc kX12_elect_0 19 rfl) (by decide) Iff.rfl rfl ?_ ?_
        · refine j_iconst (q := 44) (v := (0 : Int32)) hx (dc kX12_elect_0 25 rfl) (by decide) rfl ?_
          exact hb44 x0 x1 x2 x3 (0 : Int32) h
        · refine j_aload_n (q := 35) hx (dc kX12_elect_0 20 rfl) rfl 0 rfl rfl ?_
          refine w_gR (q := 38) hx (dc kX12_elect_0 21 rfl) ff_X12_38 lk_X12_76 rfl (fun v17 => ?_)
          refine j_iload_n (q := 39) hx (dc kX12_elect_0 22 rfl) rfl 3 rfl rfl ?_
          refine j_ldI (q := 40) hx (dc kX12_elect_0 23 rfl) rfl (fun v18 => ?_)
          refine j_goto (q := 44) hx (dc kX12_elect_0 24 rfl) (by decide) ?_
          exact hb44 x0 x1 x2 x3 v18 h
    exact j_loop (S := (Int32 × Int32)) (lvf := fun s => [(0, vR x.2.2.2 x0), (1, .int x1), (2, .int s.1), (3, .int s.2)]) (hpf := fun s => h) (f := (fun s : (Int32 × Int32) => mX12_elect_l19f x0 x1 h s.1 s.2)) (fun s => hB s.1 s.2) (x2, x3)
  unfold mX12_elect
  refine J.ckd fun hck => ?_
  refine j_iload_n (q := 1) hx (dc kX12_elect_0 0 rfl) rfl 1 rfl rfl ?_
  refine j_iconst (q := 2) (v := (0 : Int32)) hx (dc kX12_elect_0 1 rfl) (by decide) rfl ?_
  refine j_iconst (q := 3) (v := (1 : Int32)) hx (dc kX12_elect_0 2 rfl) (by decide) rfl ?_
  refine w_cSIR (q := 6) (As := [.int x1, .int (0 : Int32), .int (1 : Int32)]) (st := []) hx (dc kX12_elect_0 3 rfl) (cI _ my_X12_in lm_X12_85 (by decide)) st_X12_in rfl (fun u hu => sX12_in _ _ _ _ _ _ _ hu) (Nat.zero_le _) rfl (fun v1 => ?_)
  refine j_if_neS (q := 9) (tgt := 11) hx (dc kX12_elect_0 4 rfl) (by decide) rfl ?_ ?_
  · refine j_aload_n (q := 12) hx (dc kX12_elect_0 7 rfl) rfl 0 rfl rfl ?_
    refine w_cVVW (q := 15) (As := []) (st := []) hx (dc kX12_elect_0 8 rfl) cf12 (by decide) rfl (cI _ my_X12_laysWins lm_X12_488 (by decide)) vs_X12_laysWins rfl (fun u hu => sX12_laysWins _ _ _ _ _ hu) (fun e => ite_ne (by unfold mX12_laysWins at e; exact e)) (Nat.zero_le _) rfl (fun h4 => ?_)
    refine j_iconst (q := 16) (v := (0 : Int32)) hx (dc kX12_elect_0 9 rfl) (by decide) rfl ?_
    refine j_istore_n (q := 17) (i := 2) (l2 := [(0, vR x.2.2.2 x0), (1, .int x1)]) hx (dc kX12_elect_0 10 rfl) rfl (hn 2 (by decide)) [0, 1] rfl ⟨⟨show (0 : Nat) ≠ 2 by decide, Or.inl (show (0 : Nat) + 1 ≠ 2 by decide)⟩, ⟨⟨show (1 : Nat) ≠ 2 by decide, Or.inr rfl⟩, trivial⟩⟩ rfl ?_
    refine j_iconst (q := 18) (v := (0 : Int32)) hx (dc kX12_elect_0 11 rfl) (by decide) rfl ?_
    refine j_istore_n (q := 19) (i := 3) (l2 := [(2, .int (0 : Int32)), (0, vR x.2.2.2 x0), (1, .int x1)]) hx (dc kX12_elect_0 12 rfl) rfl (hn 3 (by decide)) [0, 1, 2] rfl ⟨⟨show (2 : Nat) ≠ 3 by decide, Or.inr rfl⟩, ⟨⟨show (0 : Nat) ≠ 3 by decide, Or.inl (show (0 : Nat) + 1 ≠ 3 by decide)⟩, ⟨⟨show (1 : Nat) ≠ 3 by decide, Or.inl (show (1 : Nat) + 1 ≠ 3 by decide)⟩, trivial⟩⟩⟩ rfl ?_
    exact j_sub [2, 3, 1, 0] rfl (hb19 x0 x1 (0 : Int32) (0 : Int32) h4)
  · refine j_iconst (q := 10) (v := (-1 : Int32)) hx (dc kX12_elect_0 5 rfl) (by decide) rfl ?_
    exact r_iW hx hR (dc kX12_elect_0 6 rfl)

set_option maxHeartbeats 4000000 in
set_option maxRecDepth 100000 in
theorem sX12_ask (l : Launch) (w : Wd) (x0 : Nat) (h : Hp) (u : (Int32 × Hp)) (hK : mX12_ask x0 h = some u) : M1 l w mi_X12_ask 52 [vR w x0] h u.2 (some (.int u.1)) := by
  refine M1.of (own := RX12) (T := fun _ r => r = u) hK (by decide +kernel) rfl (by first | (simp only [lg_lenR, lg_lenI, lg_lenL, lg_len0]; decide) | decide) (fun x hx hnl hhf hl hw hret hnm hQ h0e => ⟨?_, rfl⟩)
  subst hw
  subst hl
  have hR : Rt x h u.2 (some (.int u.1)) ((some .int)) := ⟨h0e, hhf, hret, hQ⟩
  have hn : ∀ i, i < 8 → i < x.2.2.1.1.1 := fun i hi => by rw [hnl]; exact hi
  have e0 : lv_args 0 [vR x.2.2.2 x0] = [(0, vR x.2.2.2 x0)] := by simp only [lv_argsR, lv_argsI, lv_argsL, lv_args0]
  rw [e0]
  have hb94 : ∀ (x0 : Nat) (x1 : Int32) (x2 : Int64) (x4 : Int64) (x6 : Int32) (h : Hp), J x 94 [(0, vR x.2.2.2 x0), (1, .int x1), (2, .long x2), (4, .long x4), (6, .int x6)] [] h (mX12_ask_l94 x0 x1 x2 x4 x6 h) (fun r => r = u) := by
    intro x0 x1 x2 x4 x6 h
    have hB : ∀ (x1 : Int32) (x2 : Int64) (x4 : Int64) (x6 : Int32) (h : Hp), J x 94 [(0, vR x.2.2.2 x0), (1, .int x1), (2, .long x2), (4, .long x4), (6, .int x6)] [] h (mX12_ask_l94f x0 x1 x2 x4 x6 h) (TL (S := (Int32 × Int64 × Int64 × Int32 × Hp)) x 94 (fun s => [(0, vR x.2.2.2 x0), (1, .int s.1), (2, .long s.2.1), (4, .long s.2.2.1), (6, .int s.2.2.2.1)]) [] (fun s => s.2.2.2.2) (fun r => r = u)) := by
      intro x1 x2 x4 x6 h
      have hb185 : ∀ (x0 : Nat) (x1 : Int32) (x2 : Int64) (x6 : Int32) (t0 : Int64) (t1 : Int64) (h : Hp), J x 185 [(0, vR x.2.2.2 x0), (1, .int x1), (2, .long x2), (6, .int x6)] [.long t1, .long t0] h (mX12_ask_b185 x0 x1 x2 x6 t0 t1 h) (TL (S := (Int32 × Int64 × Int64 × Int32 × Hp)) x 94 (fun s => [(0, vR x.2.2.2 x0), (1, .int s.1), (2, .long s.2.1), (4, .long s.2.2.1), (6, .int s.2.2.2.1)]) [] (fun s => s.2.2.2.2) (fun r => r = u)) := by
        intro x0 x1 x2 x6 t0 t1 h
        unfold mX12_ask_b185
        refine j_ladd (q := 186) hx (dc kX12_ask_1 40 rfl) rfl ?_
        refine j_lstore (q := 188) (i := 4) (l2 := [(0, vR x.2.2.2 x0), (1, .int x1), (2, .long x2), (6, .int x6)]) hx (dc kX12_ask_1 41 rfl) (hn 5 (by decide)) [0, 1, 2, 3] rfl ⟨⟨show (0 : Nat) ≠ 4 by decide, Or.inl (show (0 : Nat) + 1 ≠ 4 by decide)⟩, ⟨⟨show (1 : Nat) ≠ 4 by decide, Or.inl (show (1 : Nat) + 1 ≠ 4 by decide)⟩, ⟨⟨show (2 : Nat) ≠ 4 by decide, Or.inl (show (2 : Nat) + 1 ≠ 4 by decide)⟩, ⟨⟨show (6 : Nat) ≠ 4 by decide, Or.inl (show (6 : Nat) + 1 ≠ 4 by decide)⟩, trivial⟩⟩⟩⟩ (by simp) rfl ?_
        refine j_iinc (q := 191) (l2 := [(4, .long (t0 + t1)), (0, vR x.2.2.2 x0), (1, .int x1), (2, .long x2)]) hx (dc kX12_ask_1 42 rfl) 4 rfl (v := (1 : Int32)) (by decide) (hn 6 (by decide)) [0, 1, 2, 3] rfl ⟨⟨show (4 : Nat) ≠ 6 by decide, Or.inl (show (4 : Nat) + 1 ≠ 6 by decide)⟩, ⟨⟨show (0 : Nat) ≠ 6 by decide, Or.inl (show (0 : Nat) + 1 ≠ 6 by decide)⟩, ⟨⟨show (1 : Nat) ≠ 6 by decide, Or.inl (show (1 : Nat) + 1 ≠ 6 by decide)⟩, ⟨⟨show (2 : Nat) ≠ 6 by decide, Or.inl (show (2 : Nat) + 1 ≠ 6 by decide)⟩, trivial⟩⟩⟩⟩ rfl ?_
        refine j_goto (q := 94) hx (dc kX12_ask_1 43 rfl) (by decide) ?_
        exact j_back [2, 3, 4, 1, 0] (x1, x2, (t0 + t1), (x6 + (1 : Int32)), h) rfl rfl
      have hb162 : ∀ (x0 : Nat) (x1 : Int32) (x4 : Int64) (x6 : Int32) (t0 : Int64) (t1 : Int64) (h : Hp), J x 162 [(0, vR x.2.2.2 x0), (1, .int x1), (4, .long x4), (6, .int x6)] [.long t1, .long t0] h (mX12_ask_b162 x0 x1 x4 x6 t0 t1 h) (TL (S := (Int32 × Int64 × Int64 × Int32 × Hp)) x 94 (fun s => [(0, vR x.2.2.2 x0), (1, .int s.1), (2, .long s.2.1), (4, .long s.2.2.1), (6, .int s.2.2.2.1)]) [] (fun s => s.2.2.2.2) (fun r => r = u)) := by
        intro x0 x1 x4 x6 t0 t1 h
        unfold mX12_ask_b162
        refine j_ladd (q := 163) hx (dc kX12_ask_1 28 rfl) rfl ?_
        refine j_lstore_n (q := 164) (i := 2) (l2 := [(0, vR x.2.2.2 x0), (1, .int x1), (4, .long x4), (6, .int x6)]) hx (dc kX12_ask_1 29 rfl) rfl (hn 3 (by decide)) [0, 1, 2, 3] rfl ⟨⟨show (0 : Nat) ≠ 2 by decide, Or.inl (show (0 : Nat) + 1 ≠ 2 by decide)⟩, ⟨⟨show (1 : Nat) ≠ 2 by decide, Or.inr rfl⟩, ⟨⟨show (4 : Nat) ≠ 2 by decide, Or.inl (show (4 : Nat) + 1 ≠ 2 by decide)⟩, ⟨⟨show (6 : Nat) ≠ 2 by decide, Or.inl (show (6 : Nat) + 1 ≠ 2 by decide)⟩, trivial⟩⟩⟩⟩ (by simp) rfl ?_
        refine j_lload (q := 166) hx (dc kX12_ask_1 30 rfl) 3 rfl rfl ?_
        refine j_aload_n (q := 167) hx (dc kX12_ask_1 31 rfl) rfl 1 rfl rfl ?_
        refine j_iload (q := 169) hx (dc kX12_ask_1 32 rfl) 4 rfl rfl ?_
        refine w_cVIR (q := 172) (As := [.int x6]) (st := [.long x4]) hx (dc kX12_ask_1 33 rfl) cf12 (by decide) rfl (cI _ my_X12_isLeft lm_X12_398 (by decide)) vs_X12_isLeft rfl (fun u hu => sX12_isLeft _ _ _ _ _ _ hu) (fun e => ite_ne (by unfold mX12_isLeft at e; exact e)) (sum_le (sum_J sum_nil) (by decide)) rfl (fun v28 => ?_)
        refine j_if_eq (q := 175) (tgt := 184) hx (dc kX12_ask_1 34 rfl) (by decide) Iff.rfl rfl ?_ ?_
        · refine j_lconst (q := 185) (v := (0 : Int64)) hx (dc kX12_ask_1 39 rfl) (by decide) rfl ?_
          exact j_sub [1, 2, 0, 4] rfl (hb185 x0 x1 (t0 + t1) x6 x4 (0 : Int64) h)
        · refine j_aload_n (q := 176) hx (dc kX12_ask_1 35 rfl) rfl 1 rfl rfl ?_
          refine j_iload (q := 178) hx (dc kX12_ask_1 36 rfl) 4 rfl rfl ?_
          refine w_cVJR (q := 181) (As := [.int x6]) (st := [.long x4]) hx (dc kX12_ask_1 37 rfl) cf12 (by decide) rfl (cI _ my_X12_weight lm_X12_477 (by decide)) vs_X12_weight rfl (fun u hu => sX12_weight _ _ _ _ _ _ hu) (fun e => ite_ne (by unfold mX12_weight at e; exact e)) (sum_le (sum_J sum_nil) (by decide)) rfl (fun v30 => ?_)
          refine j_goto (q := 185) hx (dc kX12_ask_1 38 rfl) (by decide) ?_
          exact j_sub [1, 2, 0, 4] rfl (hb185 x0 x1 (t0 + t1) x6 x4 v30 h)
      have hb144 : ∀ (x0 : Nat) (x2 : Int64) (x4 : Int64) (x6 : Int32) (x7 : Int32) (t0 : Int32) (t1 : Int32) (h : Hp), J x 144 [(0, vR x.2.2.2 x0), (2, .long x2), (4, .long x4), (6, .int x6), (7, .int x7)] [.int t1, .int t0] h (mX12_ask_b144 x0 x2 x4 x6 x7 t0 t1 h) (TL (S := (Int32 × Int64 × Int64 × Int32 × Hp)) x 94 (fun s => [(0, vR x.2.2.2 x0), (1, .int s.1), (2, .long s.2.1), (4, .long s.2.2.1), (6, .int s.2.2.2.1)]) [] (fun s => s.2.2.2.2) (fun r => r = u)) := by
        intro x0 x2 x4 x6 x7 t0 t1 h
        unfold mX12_ask_b144
        refine j_iadd (q := 145) hx (dc kX12_ask_1 18 rfl) rfl ?_
        refine j_istore_n (q := 146) (i := 1) (l2 := [(0, vR x.2.2.2 x0), (2, .long x2), (4, .long x4), (6, .int x6), (7, .int x7)]) hx (dc kX12_ask_1 19 rfl) rfl (hn 1 (by decide)) [0, 1, 2, 3, 4] rfl ⟨⟨show (0 : Nat) ≠ 1 by decide, Or.inr (vR_cat _ _)⟩, ⟨⟨show (2 : Nat) ≠ 1 by decide, Or.inl (show (2 : Nat) + 1 ≠ 1 by decide)⟩, ⟨⟨show (4 : Nat) ≠ 1 by decide, Or.inl (show (4 : Nat) + 1 ≠ 1 by decide)⟩, ⟨⟨show (6 : Nat) ≠ 1 by decide, Or.inl (show (6 : Nat) + 1 ≠ 1 by decide)⟩, ⟨⟨show (7 : Nat) ≠ 1 by decide, Or.inl (show (7 : Nat) + 1 ≠ 1 by decide)⟩, trivial⟩⟩⟩⟩⟩ rfl ?_
        refine j_lload_n (q := 147) hx (dc kX12_ask_1 20 rfl) rfl 2 rfl rfl ?_
        refine j_iload (q := 149) hx (dc kX12_ask_1 21 rfl) 5 rfl rfl ?_
        refine j_if_eq (q := 152) (tgt := 161) hx (dc kX12_ask_1 22 rfl) (by decide) Iff.rfl rfl ?_ ?_
        · refine j_lconst (q := 162) (v := (0 : Int64)) hx (dc kX12_ask_1 27 rfl) (by decide) rfl ?_
          exact j_sub [1, 0, 3, 4] rfl (hb162 x0 (t0 + t1) x4 x6 x2 (0 : Int64) h)
        · refine j_aload_n (q := 153) hx (dc kX12_ask_1 23 rfl) rfl 1 rfl rfl ?_
          refine j_iload (q := 155) hx (dc kX12_ask_1 24 rfl) 4 rfl rfl ?_
          refine w_cVJR (q := 158) (As := [.int x6]) (st := [.long x2]) hx (dc kX12_ask_1 25 rfl) cf12 (by decide) rfl (cI _ my_X12_weight lm_X12_477 (by decide)) vs_X12_weight rfl (fun u hu => sX12_weight _ _ _ _ _ _ hu) (fun e => ite_ne (by unfold mX12_weight at e; exact e)) (sum_le (sum_J sum_nil) (by decide)) rfl (fun v32 => ?_)
          refine j_goto (q := 162) hx (dc kX12_ask_1 26 rfl) (by decide) ?_
          exact j_sub [1, 0, 3, 4] rfl (hb162 x0 (t0 + t1) x4 x6 x2 v32 h)
      have hb131 : ∀ (x0 : Nat) (x1 : Int32) (x2 : Int64) (x4 : Int64) (x6 : Int32) (t0 : Int32) (h : Hp), J x 131 [(0, vR x.2.2.2 x0), (1, .int x1), (2, .long x2), (4, .long x4), (6, .int x6)] [.int t0] h (mX12_ask_b131 x0 x1 x2 x4 x6 t0 h) (TL (S := (Int32 × Int64 × Int64 × Int32 × Hp)) x 94 (fun s => [(0, vR x.2.2.2 x0), (1, .int s.1), (2, .long s.2.1), (4, .long s.2.2.1), (6, .int s.2.2.2.1)]) [] (fun s => s.2.2.2.2) (fun r => r = u)) := by
        intro x0 x1 x2 x4 x6 t0 h
        unfold mX12_ask_b131
        refine j_istore (q := 133) (i := 7) (l2 := [(0, vR x.2.2.2 x0), (1, .int x1), (2, .long x2), (4, .long x4), (6, .int x6)]) hx (dc kX12_ask_1 11 rfl) (hn 7 (by decide)) [0, 1, 2, 3, 4] rfl ⟨⟨show (0 : Nat) ≠ 7 by decide, Or.inl (show (0 : Nat) + 1 ≠ 7 by decide)⟩, ⟨⟨show (1 : Nat) ≠ 7 by decide, Or.inl (show (1 : Nat) + 1 ≠ 7 by decide)⟩, ⟨⟨show (2 : Nat) ≠ 7 by decide, Or.inl (show (2 : Nat) + 1 ≠ 7 by decide)⟩, ⟨⟨show (4 : Nat) ≠ 7 by decide, Or.inl (show (4 : Nat) + 1 ≠ 7 by decide)⟩, ⟨⟨show (6 : Nat) ≠ 7 by decide, Or.inr rfl⟩, trivial⟩⟩⟩⟩⟩ rfl ?_
        refine j_iload_n (q := 134) hx (dc kX12_ask_1 12 rfl) rfl 2 rfl rfl ?_
        refine j_iload (q := 136) hx (dc kX12_ask_1 13 rfl) 0 rfl rfl ?_
        refine j_if_eq (q := 139) (tgt := 143) hx (dc kX12_ask_1 14 rfl) (by decide) Iff.rfl rfl ?_ ?_
        · refine j_iconst (q := 144) (v := (0 : Int32)) hx (dc kX12_ask_1 17 rfl) (by decide) rfl ?_
          exact j_sub [1, 3, 4, 5, 0] rfl (hb144 x0 x2 x4 x6 t0 x1 (0 : Int32) h)
        · refine j_iconst (q := 140) (v := (1 : Int32)) hx (dc kX12_ask_1 15 rfl) (by decide) rfl ?_
          refine j_goto (q := 144) hx (dc kX12_ask_1 16 rfl) (by decide) ?_
          exact j_sub [1, 3, 4, 5, 0] rfl (hb144 x0 x2 x4 x6 t0 x1 (1 : Int32) h)
      have hb130 : ∀ (x0 : Nat) (x1 : Int32) (x2 : Int64) (x4 : Int64) (x6 : Int32) (h : Hp), J x 130 [(0, vR x.2.2.2 x0), (1, .int x1), (2, .long x2), (4, .long x4), (6, .int x6)] [] h (mX12_ask_b130 x0 x1 x2 x4 x6 h) (TL (S := (Int32 × Int64 × Int64 × Int32 × Hp)) x 94 (fun s => [(0, vR x.2.2.2 x0), (1, .int s.1), (2, .long s.2.1), (4, .long s.2.2.1), (6, .int s.2.2.2.1)]) [] (fun s => s.2.2.2.2) (fun r => r = u)) := by
        intro x0 x1 x2 x4 x6 h
        unfold mX12_ask_b130
        refine j_iconst (q := 131) (v := (0 : Int32)) hx (dc kX12_ask_1 10 rfl) (by decide) rfl ?_
        exact hb131 x0 x1 x2 x4 x6 (0 : Int32) h
      unfold mX12_ask_l94f
      refine j_iload (q := 96) hx (dc kX12_ask_0 57 rfl) 4 rfl rfl ?_
      refine j_sipush (q := 99) (v := (256 : Int32)) hx (dc kX12_ask_0 58 rfl) (by decide) rfl ?_
      refine j_icmp_geS (q := 102) (tgt := 194) hx (dc kX12_ask_0 59 rfl) (by decide) rfl ?_ ?_
      · refine j_exit ?_
        refine j_aload_n (q := 195) hx (dc kX12_ask_1 44 rfl) rfl 0 rfl rfl ?_
        refine j_lload_n (q := 196) hx (dc kX12_ask_1 45 rfl) rfl 2 rfl rfl ?_
        refine j_lload (q := 198) hx (dc kX12_ask_1 46 rfl) 3 rfl rfl ?_
        refine w_cVVW (q := 201) (As := [.long x2, .long x4]) (st := []) hx (dc kX12_ask_1 47 rfl) cf12 (by decide) rfl (cI _ my_X12_tellsBy lm_X12_481 (by decide)) vs_X12_tellsBy rfl (fun u hu => sX12_tellsBy _ _ _ _ _ _ _ hu) (fun e => ite_ne (by unfold mX12_tellsBy at e; exact e)) (Nat.zero_le _) rfl (fun h17 => ?_)
        refine j_aload_n (q := 202) hx (dc kX12_ask_1 48 rfl) rfl 0 rfl rfl ?_
        refine j_iconst (q := 203) (v := (1 : Int32)) hx (dc kX12_ask_1 49 rfl) (by decide) rfl ?_
        refine w_sZ (q := 206) hx (dc kX12_ask_1 50 rfl) ff_X12_39 rfl lk_X12_290 (Or.inl rfl) rfl (fun h18 => ?_)
        refine j_aload_n (q := 207) hx (dc kX12_ask_1 51 rfl) rfl 0 rfl rfl ?_
        refine j_aload_n (q := 208) hx (dc kX12_ask_1 52 rfl) rfl 0 rfl rfl ?_
        refine w_gL (q := 211) hx (dc kX12_ask_1 53 rfl) ff_X12_36 lk_X12_471 rfl (fun v19 => ?_)
        refine w_sL (q := 214) hx (dc kX12_ask_1 54 rfl) ff_X12_40 rfl lk_X12_502 (Or.inl rfl) rfl (fun h20 => ?_)
        refine j_aload_n (q := 215) hx (dc kX12_ask_1 55 rfl) rfl 0 rfl rfl ?_
        refine j_aload_n (q := 216) hx (dc kX12_ask_1 56 rfl) rfl 0 rfl rfl ?_
        refine w_gL (q := 219) hx (dc kX12_ask_1 57 rfl) ff_X12_37 lk_X12_474 rfl (fun v21 => ?_)
        refine w_sL (q := 222) hx (dc kX12_ask_1 58 rfl) ff_X12_41 rfl lk_X12_505 (Or.inl rfl) rfl (fun h22 => ?_)
        refine j_iload_n (q := 223) hx (dc kX12_ask_1 59 rfl) rfl 1 rfl rfl ?_
        refine j_if_neS (q := 226) (tgt := 230) hx (dc kX12_ask_1 60 rfl) (by decide) rfl ?_ ?_
        · refine j_iload_n (q := 231) hx (dc kX12_ask_1 63 rfl) rfl 1 rfl rfl ?_
          refine j_aload_n (q := 232) hx (dc kX12_ask_2 0 rfl) rfl 0 rfl rfl ?_
          refine w_gR (q := 235) hx (dc kX12_ask_2 1 rfl) ff_X12_27 lk_X12_55 rfl (fun v23 => ?_)
          refine w_cSIR (q := 238) (As := [vR x.2.2.2 v23]) (st := [.int x1]) hx (dc kX12_ask_2 2 rfl) (cI _ my_X12_many lm_X12_322 (by decide)) st_X12_many rfl (fun u hu => sX12_many _ _ _ _ _ hu) (sum_le (sum_I sum_nil) (by decide)) rfl (fun v24 => ?_)
          refine j_icmp_neS (q := 241) (tgt := 245) hx (dc kX12_ask_2 3 rfl) (by decide) rfl ?_ ?_
          · refine j_iconst (q := 246) (v := (2 : Int32)) hx (dc kX12_ask_2 6 rfl) (by decide) rfl ?_
            exact r_iW hx hR (dc kX12_ask_2 7 rfl)
          · refine j_iconst (q := 242) (v := (1 : Int32)) hx (dc kX12_ask_2 4 rfl) (by decide) rfl ?_
            refine j_goto (q := 246) hx (dc kX12_ask_2 5 rfl) (by decide) ?_
            exact r_iW hx hR (dc kX12_ask_2 7 rfl)
        · refine j_iconst (q := 227) (v := (0 : Int32)) hx (dc kX12_ask_1 61 rfl) (by decide) rfl ?_
          refine j_goto (q := 246) hx (dc kX12_ask_1 62 rfl) (by decide) ?_
          exact r_iW hx hR (dc kX12_ask_2 7 rfl)
      · refine j_aload_n (q := 103) hx (dc kX12_ask_0 60 rfl) rfl 0 rfl rfl ?_
        refine j_iload (q := 105) hx (dc kX12_ask_0 61 rfl) 4 rfl rfl ?_
        refine w_cVIR (q := 108) (As := [.int x6]) (st := []) hx (dc kX12_ask_0 62 rfl) cf12 (by decide) rfl (cI _ my_X12_isLeft lm_X12_398 (by decide)) vs_X12_isLeft rfl (fun u hu => sX12_isLeft _ _ _ _ _ _ hu) (fun e => ite_ne (by unfold mX12_isLeft at e; exact e)) (Nat.zero_le _) rfl (fun v26 => ?_)
        refine j_if_eq (q := 111) (tgt := 130) hx (dc kX12_ask_0 63 rfl) (by decide) Iff.rfl rfl ?_ ?_
        · exact hb130 x0 x1 x2 x4 x6 h
        · refine j_aload_n (q := 112) hx (dc kX12_ask_1 0 rfl) rfl 0 rfl rfl ?_
          refine j_aload_n (q := 113) hx (dc kX12_ask_1 1 rfl) rfl 0 rfl rfl ?_
          refine w_gR (q := 116) hx (dc kX12_ask_1 2 rfl) ff_X12_1 lk_X12_13 rfl (fun v34 => ?_)
          refine j_iconst (q := 117) (v := (0 : Int32)) hx (dc kX12_ask_1 3 rfl) (by decide) rfl ?_
          refine j_iload (q := 119) hx (dc kX12_ask_1 4 rfl) 4 rfl rfl ?_
          refine w_cVIW (q := 122) (As := [vR x.2.2.2 v34, .int (0 : Int32), .int x6]) (st := []) hx (dc kX12_ask_1 5 rfl) cf12 (by decide) rfl (cI _ my_X12_holds lm_X12_293 (by decide)) vs_X12_holds rfl (fun u hu => sX12_holds _ _ _ _ _ _ _ _ hu) (fun e => ite_ne (by unfold mX12_holds at e; exact e)) (Nat.zero_le _) rfl (fun v35 h36 => ?_)
          refine j_iconst (q := 123) (v := (1 : Int32)) hx (dc kX12_ask_1 6 rfl) (by decide) rfl ?_
          refine j_icmp_neS (q := 126) (tgt := 130) hx (dc kX12_ask_1 7 rfl) (by decide) rfl ?_ ?_
          · exact hb130 x0 x1 x2 x4 x6 h36
          · refine j_iconst (q := 127) (v := (1 : Int32)) hx (dc kX12_ask_1 8 rfl) (by decide) rfl ?_
            refine j_goto (q := 131) hx (dc kX12_ask_1 9 rfl) (by decide) ?_
            exact hb131 x0 x1 x2 x4 x6 (1 : Int32) h36
    exact j_loop (S := (Int32 × Int64 × Int64 × Int32 × Hp)) (lvf := fun s => [(0, vR x.2.2.2 x0), (1, .int s.1), (2, .long s.2.1), (4, .long s.2.2.1), (6, .int s.2.2.2.1)]) (hpf := fun s => s.2.2.2.2) (f := (fun s : (Int32 × Int64 × Int64 × Int32 × Hp) => mX12_ask_l94f x0 s.1 s.2.1 s.2.2.1 s.2.2.2.1 s.2.2.2.2)) (fun s => hB s.1 s.2.1 s.2.2.1 s.2.2.2.1 s.2.2.2.2) (x1, x2, x4, x6, h)
  have hb75 : ∀ (x0 : Nat) (h : Hp), J x 75 [(0, vR x.2.2.2 x0)] [] h (mX12_ask_b75 x0 h) (fun r => r = u) := by
    intro x0 h
    unfold mX12_ask_b75
    refine j_aload_n (q := 76) hx (dc kX12_ask_0 44 rfl) rfl 0 rfl rfl ?_
    refine w_cVIW (q := 79) (As := []) (st := []) hx (dc kX12_ask_0 45 rfl) cf12 (by decide) rfl (cI _ my_X12_isRead lm_X12_277 (by decide)) vs_X12_isRead rfl (fun u hu => sX12_isRead _ _ _ _ _ hu) (fun e => ite_ne (by unfold mX12_isRead at e; exact e)) (Nat.zero_le _) rfl (fun v14 h15 => ?_)
    refine j_if_neS (q := 82) (tgt := 84) hx (dc kX12_ask_0 46 rfl) (by decide) rfl ?_ ?_
    · refine j_iconst (q := 85) (v := (0 : Int32)) hx (dc kX12_ask_0 49 rfl) (by decide) rfl ?_
      refine j_istore_n (q := 86) (i := 1) (l2 := [(0, vR x.2.2.2 x0)]) hx (dc kX12_ask_0 50 rfl) rfl (hn 1 (by decide)) [0] rfl ⟨⟨show (0 : Nat) ≠ 1 by decide, Or.inr (vR_cat _ _)⟩, trivial⟩ rfl ?_
      refine j_lconst (q := 87) (v := (0 : Int64)) hx (dc kX12_ask_0 51 rfl) (by decide) rfl ?_
      refine j_lstore_n (q := 88) (i := 2) (l2 := [(1, .int (0 : Int32)), (0, vR x.2.2.2 x0)]) hx (dc kX12_ask_0 52 rfl) rfl (hn 3 (by decide)) [0, 1] rfl ⟨⟨show (1 : Nat) ≠ 2 by decide, Or.inr rfl⟩, ⟨⟨show (0 : Nat) ≠ 2 by decide, Or.inl (show (0 : Nat) + 1 ≠ 2 by decide)⟩, trivial⟩⟩ (by simp) rfl ?_
      refine j_lconst (q := 89) (v := (0 : Int64)) hx (dc kX12_ask_0 53 rfl) (by decide) rfl ?_
      refine j_lstore (q := 91) (i := 4) (l2 := [(2, .long (0 : Int64)), (1, .int (0 : Int32)), (0, vR x.2.2.2 x0)]) hx (dc kX12_ask_0 54 rfl) (hn 5 (by decide)) [0, 1, 2] rfl ⟨⟨show (2 : Nat) ≠ 4 by decide, Or.inl (show (2 : Nat) + 1 ≠ 4 by decide)⟩, ⟨⟨show (1 : Nat) ≠ 4 by decide, Or.inl (show (1 : Nat) + 1 ≠ 4 by decide)⟩, ⟨⟨show (0 : Nat) ≠ 4 by decide, Or.inl (show (0 : Nat) + 1 ≠ 4 by decide)⟩, trivial⟩⟩⟩ (by simp) rfl ?_
      refine j_iconst (q := 92) (v := (0 : Int32)) hx (dc kX12_ask_0 55 rfl) (by decide) rfl ?_
      refine j_istore (q := 94) (i := 6) (l2 := [(4, .long (0 : Int64)), (2, .long (0 : Int64)), (1, .int (0 : Int32)), (0, vR x.2.2.2 x0)]) hx (dc kX12_ask_0 56 rfl) (hn 6 (by decide)) [0, 1, 2, 3] rfl ⟨⟨show (4 : Nat) ≠ 6 by decide, Or.inl (show (4 : Nat) + 1 ≠ 6 by decide)⟩, ⟨⟨show (2 : Nat) ≠ 6 by decide, Or.inl (show (2 : Nat) + 1 ≠ 6 by decide)⟩, ⟨⟨show (1 : Nat) ≠ 6 by decide, Or.inl (show (1 : Nat) + 1 ≠ 6 by decide)⟩, ⟨⟨show (0 : Nat) ≠ 6 by decide, Or.inl (show (0 : Nat) + 1 ≠ 6 by decide)⟩, trivial⟩⟩⟩⟩ rfl ?_
      exact j_sub [4, 3, 2, 1, 0] rfl (hb94 x0 (0 : Int32) (0 : Int64) (0 : Int64) (0 : Int32) h15)
    · refine j_iconst (q := 83) (v := (-1 : Int32)) hx (dc kX12_ask_0 47 rfl) (by decide) rfl ?_
      exact r_iW hx hR (dc kX12_ask_0 48 rfl)
  have hb34 : ∀ (x0 : Nat) (x1 : Int32) (h : Hp), J x 34 [(0, vR x.2.2.2 x0), (1, .int x1)] [] h (mX12_ask_l34 x0 x1 h) (fun r => r = u) := by
    intro x0 x1 h
    have hB : ∀ (x1 : Int32) (h : Hp), J x 34 [(0, vR x.2.2.2 x0), (1, .int x1)] [] h (mX12_ask_l34f x0 x1 h) (TL (S := (Int32 × Hp)) x 34 (fun s => [(0, vR x.2.2.2 x0), (1, .int s.1)]) [] (fun s => s.2) (fun r => r = u)) := by
      intro x1 h
      unfold mX12_ask_l34f
      refine j_iload_n (q := 35) hx (dc kX12_ask_0 22 rfl) rfl 1 rfl rfl ?_
      refine j_bipush (q := 37) (v := (8 : Int32)) hx (dc kX12_ask_0 23 rfl) (by decide) rfl ?_
      refine j_icmp_geS (q := 40) (tgt := 58) hx (dc kX12_ask_0 24 rfl) (by decide) rfl ?_ ?_
      · refine j_exit ?_
        refine j_aload_n (q := 59) hx (dc kX12_ask_0 35 rfl) rfl 0 rfl rfl ?_
        refine w_cVIW (q := 62) (As := []) (st := []) hx (dc kX12_ask_0 36 rfl) cf12 (by decide) rfl (cI _ my_X12_expr lm_X12_232 (by decide)) vs_X12_expr rfl (fun u hu => sX12_expr _ _ _ _ _ hu) (fun e => ite_ne (by unfold mX12_expr at e; exact e)) (Nat.zero_le _) rfl (fun v11 h12 => ?_)
        refine j_pop (q := 63) hx (dc kX12_ask_0 37 rfl) rfl rfl ?_
        refine j_aload_n (q := 64) hx (dc kX12_ask_0 38 rfl) rfl 0 rfl rfl ?_
        refine w_gI (q := 67) hx (dc kX12_ask_0 39 rfl) ff_X12_14 lk_X12_109 rfl (fun v13 => ?_)
        refine j_if_eq (q := 70) (tgt := 75) hx (dc kX12_ask_0 40 rfl) (by decide) Iff.rfl rfl ?_ ?_
        · exact j_sub [0] rfl (hb75 x0 h12)
        · refine j_aload_n (q := 71) hx (dc kX12_ask_0 41 rfl) rfl 0 rfl rfl ?_
          refine j_iconst (q := 72) (v := (1 : Int32)) hx (dc kX12_ask_0 42 rfl) (by decide) rfl ?_
          refine w_cVVW (q := 75) (As := [.int (1 : Int32)]) (st := []) hx (dc kX12_ask_0 43 rfl) cf12 (by decide) rfl (cI _ my_X12_wrong lm_X12_165 (by decide)) vs_X12_wrong rfl (fun u hu => sX12_wrong _ _ _ _ _ _ hu) (fun e => ite_ne (by unfold mX12_wrong at e; exact e)) (Nat.zero_le _) rfl (fun h38 => ?_)
          exact j_sub [0] rfl (hb75 x0 h38)
      · refine j_aload_n (q := 41) hx (dc kX12_ask_0 25 rfl) rfl 0 rfl rfl ?_
        refine w_gR (q := 44) hx (dc kX12_ask_0 26 rfl) ff_X12_3 lk_X12_20 rfl (fun v39 => ?_)
        refine j_iload_n (q := 45) hx (dc kX12_ask_0 27 rfl) rfl 1 rfl rfl ?_
        refine j_aload_n (q := 46) hx (dc kX12_ask_0 28 rfl) rfl 0 rfl rfl ?_
        refine w_gR (q := 49) hx (dc kX12_ask_0 29 rfl) ff_X12_2 lk_X12_16 rfl (fun v40 => ?_)
        refine j_iload_n (q := 50) hx (dc kX12_ask_0 30 rfl) rfl 1 rfl rfl ?_
        refine j_ldL (q := 51) hx (dc kX12_ask_0 31 rfl) rfl (fun v41 => ?_)
        refine w_stL (q := 52) hx (dc kX12_ask_0 32 rfl) rfl (fun h42 => ?_)
        refine j_iinc (q := 55) (l2 := [(0, vR x.2.2.2 x0)]) hx (dc kX12_ask_0 33 rfl) 1 rfl (v := (1 : Int32)) (by decide) (hn 1 (by decide)) [0] rfl ⟨⟨show (0 : Nat) ≠ 1 by decide, Or.inr (vR_cat _ _)⟩, trivial⟩ rfl ?_
        refine j_goto (q := 34) hx (dc kX12_ask_0 34 rfl) (by decide) ?_
        exact j_back [1, 0] ((x1 + (1 : Int32)), h42) rfl rfl
    exact j_loop (S := (Int32 × Hp)) (lvf := fun s => [(0, vR x.2.2.2 x0), (1, .int s.1)]) (hpf := fun s => s.2) (f := (fun s : (Int32 × Hp) => mX12_ask_l34f x0 s.1 s.2)) (fun s => hB s.1 s.2) (x1, h)
  unfold mX12_ask
  refine J.ckd fun hck => ?_
  refine j_aload_n (q := 1) hx (dc kX12_ask_0 0 rfl) rfl 0 rfl rfl ?_
  refine w_cVVW (q := 4) (As := []) (st := []) hx (dc kX12_ask_0 1 rfl) cf12 (by decide) rfl (cI _ my_X12_takes lm_X12_271 (by decide)) vs_X12_takes rfl (fun u hu => sX12_takes _ _ _ _ _ hu) (fun e => ite_ne (by unfold mX12_takes at e; exact e)) (Nat.zero_le _) rfl (fun h2 => ?_)
  refine j_aload_n (q := 5) hx (dc kX12_ask_0 2 rfl) rfl 0 rfl rfl ?_
  refine w_gR (q := 8) hx (dc kX12_ask_0 3 rfl) ff_X12_1 lk_X12_13 rfl (fun v3 => ?_)
  refine j_iconst (q := 9) (v := (1 : Int32)) hx (dc kX12_ask_0 4 rfl) (by decide) rfl ?_
  refine j_aload_n (q := 10) hx (dc kX12_ask_0 5 rfl) rfl 0 rfl rfl ?_
  refine w_gR (q := 13) hx (dc kX12_ask_0 6 rfl) ff_X12_0 lk_X12_7 rfl (fun v4 => ?_)
  refine j_iconst (q := 14) (v := (1 : Int32)) hx (dc kX12_ask_0 7 rfl) (by decide) rfl ?_
  refine j_ldI (q := 15) hx (dc kX12_ask_0 8 rfl) rfl (fun v5 => ?_)
  refine w_stI (q := 16) hx (dc kX12_ask_0 9 rfl) rfl (fun h6 => ?_)
  refine j_aload_n (q := 17) hx (dc kX12_ask_0 10 rfl) rfl 0 rfl rfl ?_
  refine w_gR (q := 20) hx (dc kX12_ask_0 11 rfl) ff_X12_1 lk_X12_13 rfl (fun v7 => ?_)
  refine j_bipush (q := 22) (v := (6 : Int32)) hx (dc kX12_ask_0 12 rfl) (by decide) rfl ?_
  refine j_iconst (q := 23) (v := (0 : Int32)) hx (dc kX12_ask_0 13 rfl) (by decide) rfl ?_
  refine w_stI (q := 24) hx (dc kX12_ask_0 14 rfl) rfl (fun h8 => ?_)
  refine j_aload_n (q := 25) hx (dc kX12_ask_0 15 rfl) rfl 0 rfl rfl ?_
  refine w_gR (q := 28) hx (dc kX12_ask_0 16 rfl) ff_X12_1 lk_X12_13 rfl (fun v9 => ?_)
  refine j_bipush (q := 30) (v := (7 : Int32)) hx (dc kX12_ask_0 17 rfl) (by decide) rfl ?_
  refine j_iconst (q := 31) (v := (0 : Int32)) hx (dc kX12_ask_0 18 rfl) (by decide) rfl ?_
  refine w_stI (q := 32) hx (dc kX12_ask_0 19 rfl) rfl (fun h10 => ?_)
  refine j_iconst (q := 33) (v := (0 : Int32)) hx (dc kX12_ask_0 20 rfl) (by decide) rfl ?_
  refine j_istore_n (q := 34) (i := 1) (l2 := [(0, vR x.2.2.2 x0)]) hx (dc kX12_ask_0 21 rfl) rfl (hn 1 (by decide)) [0] rfl ⟨⟨show (0 : Nat) ≠ 1 by decide, Or.inr (vR_cat _ _)⟩, trivial⟩ rfl ?_
  exact j_sub [1, 0] rfl (hb34 x0 (0 : Int32) h10)

