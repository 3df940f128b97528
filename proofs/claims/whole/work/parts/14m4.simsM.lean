set_option maxHeartbeats 4000000 in
set_option maxRecDepth 100000 in
theorem sX12_asked (l : Launch) (w : Wd) (x0 : Nat) (x1 : Int32) (h : Hp) (u : Int32) (hK : mX12_asked x0 x1 h = some u) : M1 l w mi_X12_asked 2 [vR w x0, .int x1] h h (some (.int u)) := by
  refine M1.of (own := RX12) (T := fun _ r => r = u) hK (by decide +kernel) rfl (by first | (simp only [lg_lenR, lg_lenI, lg_lenL, lg_len0]; decide) | decide) (fun x hx hnl hhf hl hw hret hnm hQ h0e => ⟨?_, rfl⟩)
  subst hw
  subst hl
  have hR : Rt x h h (some (.int u)) ((some .int)) := ⟨h0e, hhf, hret, hQ⟩
  have hn : ∀ i, i < 2 → i < x.2.2.1.1.1 := fun i hi => by rw [hnl]; exact hi
  have e0 : lv_args 0 [vR x.2.2.2 x0, .int x1] = [(0, vR x.2.2.2 x0), (1, .int x1)] := by simp only [lv_argsR, lv_argsI, lv_argsL, lv_args0]
  rw [e0]
  have hb35 : ∀ (t0 : Int64), J x 35 [] [.long t0] h (mX12_asked_b35 t0 h) (fun r => r = u) := by
    intro t0
    unfold mX12_asked_b35
    refine j_l2i (q := 36) hx (dc kX12_asked_0 17 rfl) rfl ?_
    exact r_iR hx hR (dc kX12_asked_0 18 rfl)
  unfold mX12_asked
  refine J.ckd fun hck => ?_
  refine j_aload_n (q := 1) hx (dc kX12_asked_0 0 rfl) rfl 0 rfl rfl ?_
  refine w_gI (q := 4) hx (dc kX12_asked_0 1 rfl) ff_X12_39 lk_X12_290 rfl (fun v1 => ?_)
  refine j_if_eq (q := 7) (tgt := 16) hx (dc kX12_asked_0 2 rfl) (by decide) Iff.rfl rfl ?_ ?_
  · refine j_iconst (q := 17) (v := (-1 : Int32)) hx (dc kX12_asked_0 8 rfl) (by decide) rfl ?_
    refine j_goto (q := 36) hx (dc kX12_asked_0 9 rfl) (by decide) ?_
    exact r_iR hx hR (dc kX12_asked_0 18 rfl)
  · refine j_iload_n (q := 8) hx (dc kX12_asked_0 3 rfl) rfl 1 rfl rfl ?_
    refine j_iconst (q := 9) (v := (0 : Int32)) hx (dc kX12_asked_0 4 rfl) (by decide) rfl ?_
    refine j_iconst (q := 10) (v := (1 : Int32)) hx (dc kX12_asked_0 5 rfl) (by decide) rfl ?_
    refine w_cSIR (q := 13) (As := [.int x1, .int (0 : Int32), .int (1 : Int32)]) (st := []) hx (dc kX12_asked_0 6 rfl) (cI _ my_X12_in lm_X12_85 (by decide)) st_X12_in rfl (fun u hu => sX12_in _ _ _ _ _ _ _ hu) (Nat.zero_le _) rfl (fun v2 => ?_)
    refine j_if_neS (q := 16) (tgt := 20) hx (dc kX12_asked_0 7 rfl) (by decide) rfl ?_ ?_
    · refine j_iload_n (q := 21) hx (dc kX12_asked_0 10 rfl) rfl 1 rfl rfl ?_
      refine j_if_neS (q := 24) (tgt := 31) hx (dc kX12_asked_0 11 rfl) (by decide) rfl ?_ ?_
      · refine j_aload_n (q := 32) hx (dc kX12_asked_0 15 rfl) rfl 0 rfl rfl ?_
        refine w_gL (q := 35) hx (dc kX12_asked_0 16 rfl) ff_X12_41 lk_X12_505 rfl (fun v4 => ?_)
        exact j_sub [] rfl (hb35 v4)
      · refine j_aload_n (q := 25) hx (dc kX12_asked_0 12 rfl) rfl 0 rfl rfl ?_
        refine w_gL (q := 28) hx (dc kX12_asked_0 13 rfl) ff_X12_40 lk_X12_502 rfl (fun v5 => ?_)
        refine j_goto (q := 35) hx (dc kX12_asked_0 14 rfl) (by decide) ?_
        exact j_sub [] rfl (hb35 v5)
    · refine j_iconst (q := 17) (v := (-1 : Int32)) hx (dc kX12_asked_0 8 rfl) (by decide) rfl ?_
      refine j_goto (q := 36) hx (dc kX12_asked_0 9 rfl) (by decide) ?_
      exact r_iR hx hR (dc kX12_asked_0 18 rfl)

set_option maxHeartbeats 4000000 in
set_option maxRecDepth 100000 in
theorem sX12_count (l : Launch) (w : Wd) (x0 : Nat) (x1 : Int32) (h : Hp) (u : (Int32 × Hp)) (hK : mX12_count x0 x1 h = some u) : M1 l w mi_X12_count 7 [vR w x0, .int x1] h u.2 (some (.int u.1)) := by
  refine M1.of (own := RX12) (T := fun _ r => r = u) hK (by decide +kernel) rfl (by first | (simp only [lg_lenR, lg_lenI, lg_lenL, lg_len0]; decide) | decide) (fun x hx hnl hhf hl hw hret hnm hQ h0e => ⟨?_, rfl⟩)
  subst hw
  subst hl
  have hR : Rt x h u.2 (some (.int u.1)) ((some .int)) := ⟨h0e, hhf, hret, hQ⟩
  have hn : ∀ i, i < 2 → i < x.2.2.1.1.1 := fun i hi => by rw [hnl]; exact hi
  have e0 : lv_args 0 [vR x.2.2.2 x0, .int x1] = [(0, vR x.2.2.2 x0), (1, .int x1)] := by simp only [lv_argsR, lv_argsI, lv_argsL, lv_args0]
  rw [e0]
  unfold mX12_count
  refine J.ckd fun hck => ?_
  refine j_iload_n (q := 1) hx (dc kX12_count_0 0 rfl) rfl 1 rfl rfl ?_
  refine j_tsw (td := 127) hx (dc kX12_count_0 1 rfl) (by decide) (by decide) ?_ ?_
  · refine j_iconst (q := 128) (v := (-1 : Int32)) hx (dc kX12_count_0 46 rfl) (by decide) rfl ?_
    exact r_iW hx hR (dc kX12_count_0 47 rfl)
  · refine ⟨⟨56, by decide, ?_⟩, ⟨63, by decide, ?_⟩, ⟨70, by decide, ?_⟩, ⟨78, by decide, ?_⟩, ⟨86, by decide, ?_⟩, ⟨94, by decide, ?_⟩, ⟨102, by decide, ?_⟩, ⟨110, by decide, ?_⟩, ⟨115, by decide, ?_⟩, ⟨120, by decide, ?_⟩, trivial⟩
    · refine j_aload_n (q := 57) hx (dc kX12_count_0 2 rfl) rfl 0 rfl rfl ?_
      refine w_gR (q := 60) hx (dc kX12_count_0 3 rfl) ff_X12_0 lk_X12_7 rfl (fun v1 => ?_)
      refine j_iconst (q := 61) (v := (0 : Int32)) hx (dc kX12_count_0 4 rfl) (by decide) rfl ?_
      refine j_ldI (q := 62) hx (dc kX12_count_0 5 rfl) rfl (fun v2 => ?_)
      exact r_iW hx hR (dc kX12_count_0 6 rfl)
    · refine j_aload_n (q := 64) hx (dc kX12_count_0 7 rfl) rfl 0 rfl rfl ?_
      refine w_gR (q := 67) hx (dc kX12_count_0 8 rfl) ff_X12_0 lk_X12_7 rfl (fun v3 => ?_)
      refine j_iconst (q := 68) (v := (1 : Int32)) hx (dc kX12_count_0 9 rfl) (by decide) rfl ?_
      refine j_ldI (q := 69) hx (dc kX12_count_0 10 rfl) rfl (fun v4 => ?_)
      exact r_iW hx hR (dc kX12_count_0 11 rfl)
    · refine j_aload_n (q := 71) hx (dc kX12_count_0 12 rfl) rfl 0 rfl rfl ?_
      refine w_gR (q := 74) hx (dc kX12_count_0 13 rfl) ff_X12_4 lk_X12_23 rfl (fun v5 => ?_)
      refine j_bipush (q := 76) (v := (18 : Int32)) hx (dc kX12_count_0 14 rfl) (by decide) rfl ?_
      refine j_ldI (q := 77) hx (dc kX12_count_0 15 rfl) rfl (fun v6 => ?_)
      exact r_iW hx hR (dc kX12_count_0 16 rfl)
    · refine j_aload_n (q := 79) hx (dc kX12_count_0 17 rfl) rfl 0 rfl rfl ?_
      refine w_cVIW (q := 82) (As := []) (st := []) hx (dc kX12_count_0 18 rfl) cf12 (by decide) rfl (cI _ my_X12_standing lm_X12_485 (by decide)) vs_X12_standing rfl (fun u hu => sX12_standing _ _ _ _ _ hu) (fun e => ite_ne (by unfold mX12_standing at e; exact e)) (Nat.zero_le _) rfl (fun v7 h8 => ?_)
      refine w_cSIR (q := 85) (As := [.int v7]) (st := []) hx (dc kX12_count_0 19 rfl) (cI _ my_X12_bits lm_X12_315 (by decide)) st_X12_bits rfl (fun u hu => sX12_bits _ _ _ _ _ hu) (Nat.zero_le _) rfl (fun v9 => ?_)
      exact r_iW hx hR (dc kX12_count_0 20 rfl)
    · refine j_aload_n (q := 87) hx (dc kX12_count_0 21 rfl) rfl 0 rfl rfl ?_
      refine w_gR (q := 90) hx (dc kX12_count_0 22 rfl) ff_X12_4 lk_X12_23 rfl (fun v11 => ?_)
      refine j_bipush (q := 92) (v := (17 : Int32)) hx (dc kX12_count_0 23 rfl) (by decide) rfl ?_
      refine j_ldI (q := 93) hx (dc kX12_count_0 24 rfl) rfl (fun v12 => ?_)
      exact r_iW hx hR (dc kX12_count_0 25 rfl)
    · refine j_aload_n (q := 95) hx (dc kX12_count_0 26 rfl) rfl 0 rfl rfl ?_
      refine w_gR (q := 98) hx (dc kX12_count_0 27 rfl) ff_X12_4 lk_X12_23 rfl (fun v13 => ?_)
      refine j_bipush (q := 100) (v := (16 : Int32)) hx (dc kX12_count_0 28 rfl) (by decide) rfl ?_
      refine j_ldI (q := 101) hx (dc kX12_count_0 29 rfl) rfl (fun v14 => ?_)
      exact r_iW hx hR (dc kX12_count_0 30 rfl)
    · refine j_aload_n (q := 103) hx (dc kX12_count_0 31 rfl) rfl 0 rfl rfl ?_
      refine w_cVIR (q := 106) (As := []) (st := []) hx (dc kX12_count_0 32 rfl) cf12 (by decide) rfl (cI _ my_X12_knownFacts lm_X12_329 (by decide)) vs_X12_knownFacts rfl (fun u hu => sX12_knownFacts _ _ _ _ _ hu) (fun e => ite_ne (by unfold mX12_knownFacts at e; exact e)) (Nat.zero_le _) rfl (fun v15 => ?_)
      refine w_cSIR (q := 109) (As := [.int v15]) (st := []) hx (dc kX12_count_0 33 rfl) (cI _ my_X12_bits lm_X12_315 (by decide)) st_X12_bits rfl (fun u hu => sX12_bits _ _ _ _ _ hu) (Nat.zero_le _) rfl (fun v17 => ?_)
      exact r_iW hx hR (dc kX12_count_0 34 rfl)
    · refine j_aload_n (q := 111) hx (dc kX12_count_0 35 rfl) rfl 0 rfl rfl ?_
      refine w_gI (q := 114) hx (dc kX12_count_0 36 rfl) ff_X12_8 lk_X12_287 rfl (fun v19 => ?_)
      exact r_iW hx hR (dc kX12_count_0 37 rfl)
    · refine j_aload_n (q := 116) hx (dc kX12_count_0 38 rfl) rfl 0 rfl rfl ?_
      refine w_gI (q := 119) hx (dc kX12_count_0 39 rfl) ff_X12_10 lk_X12_82 rfl (fun v20 => ?_)
      exact r_iW hx hR (dc kX12_count_0 40 rfl)
    · refine j_aload_n (q := 121) hx (dc kX12_count_0 41 rfl) rfl 0 rfl rfl ?_
      refine w_gR (q := 124) hx (dc kX12_count_0 42 rfl) ff_X12_0 lk_X12_7 rfl (fun v21 => ?_)
      refine j_iconst (q := 125) (v := (5 : Int32)) hx (dc kX12_count_0 43 rfl) (by decide) rfl ?_
      refine j_ldI (q := 126) hx (dc kX12_count_0 44 rfl) rfl (fun v22 => ?_)
      exact r_iW hx hR (dc kX12_count_0 45 rfl)

