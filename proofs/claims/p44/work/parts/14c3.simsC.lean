set_option maxHeartbeats 4000000 in
set_option maxRecDepth 100000 in
theorem sX11_isFact (l : Launch) (w : Wd) (x0 : Nat) (x1 : Int32) (h : Hp) (u : Int32) (hK : mX11_isFact x0 x1 h = some u) : M1 l w mi_X11_isFact 1 [vR w x0, .int x1] h h (some (.int u)) := by
  refine M1.of (own := RX11) (T := fun _ r => r = u) hK (by decide +kernel) rfl (by first | (simp only [lg_lenR, lg_lenI, lg_lenL, lg_len0]; decide) | decide) (fun x hx hnl hhf hl hw hret hnm hQ h0e => ⟨?_, rfl⟩)
  subst hw
  subst hl
  have hR : Rt x h h (some (.int u)) ((some .boolean)) := ⟨h0e, hhf, hret, hQ⟩
  have hn : ∀ i, i < 2 → i < x.2.2.1.1.1 := fun i hi => by rw [hnl]; exact hi
  have e0 : lv_args 0 [vR x.2.2.2 x0, .int x1] = [(0, vR x.2.2.2 x0), (1, .int x1)] := by simp only [lv_argsR, lv_argsI, lv_argsL, lv_args0]
  rw [e0]
  unfold mX11_isFact
  refine J.ckd fun hck => ?_
  refine j_iload_n (q := 1) hx (dc kX11_isFact_0 0 rfl) rfl 1 rfl rfl ?_
  refine j_if_lt (q := 4) (tgt := 19) hx (dc kX11_isFact_0 1 rfl) (by decide) Iff.rfl rfl ?_ ?_
  · refine j_iconst (q := 20) (v := (0 : Int32)) hx (dc kX11_isFact_0 9 rfl) (by decide) rfl ?_
    exact r_cR hx (Or.inl rfl) hR (dc kX11_isFact_0 10 rfl)
  · refine j_iload_n (q := 5) hx (dc kX11_isFact_0 2 rfl) rfl 1 rfl rfl ?_
    refine j_aload_n (q := 6) hx (dc kX11_isFact_0 3 rfl) rfl 0 rfl rfl ?_
    refine w_gR (q := 9) hx (dc kX11_isFact_0 4 rfl) ff_X11_3 lk_X11_33 rfl (fun v1 => ?_)
    refine w_gI (q := 12) hx (dc kX11_isFact_0 5 rfl) ff_X1_1 lk_X11_243 rfl (fun v2 => ?_)
    refine j_icmp_geS (q := 15) (tgt := 19) hx (dc kX11_isFact_0 6 rfl) (by decide) rfl ?_ ?_
    · refine j_iconst (q := 20) (v := (0 : Int32)) hx (dc kX11_isFact_0 9 rfl) (by decide) rfl ?_
      exact r_cR hx (Or.inl rfl) hR (dc kX11_isFact_0 10 rfl)
    · refine j_iconst (q := 16) (v := (1 : Int32)) hx (dc kX11_isFact_0 7 rfl) (by decide) rfl ?_
      refine j_goto (q := 20) hx (dc kX11_isFact_0 8 rfl) (by decide) ?_
      exact r_cR hx (Or.inr rfl) hR (dc kX11_isFact_0 10 rfl)

set_option maxHeartbeats 4000000 in
set_option maxRecDepth 100000 in
theorem sX11_fact (l : Launch) (w : Wd) (x0 : Nat) (x1 : Int32) (x2 : Int32) (h : Hp) (u : Int32) (hK : mX11_fact x0 x1 x2 h = some u) : M1 l w mi_X11_fact 3 [vR w x0, .int x1, .int x2] h h (some (.int u)) := by
  refine M1.of (own := RX11) (T := fun _ r => r = u) hK (by decide +kernel) rfl (by first | (simp only [lg_lenR, lg_lenI, lg_lenL, lg_len0]; decide) | decide) (fun x hx hnl hhf hl hw hret hnm hQ h0e => ⟨?_, rfl⟩)
  subst hw
  subst hl
  have hR : Rt x h h (some (.int u)) ((some .int)) := ⟨h0e, hhf, hret, hQ⟩
  have hn : ∀ i, i < 3 → i < x.2.2.1.1.1 := fun i hi => by rw [hnl]; exact hi
  have e0 : lv_args 0 [vR x.2.2.2 x0, .int x1, .int x2] = [(0, vR x.2.2.2 x0), (1, .int x1), (2, .int x2)] := by simp only [lv_argsR, lv_argsI, lv_argsL, lv_args0]
  rw [e0]
  unfold mX11_fact
  refine J.ckd fun hck => ?_
  refine j_aload_n (q := 1) hx (dc kX11_fact_0 0 rfl) rfl 0 rfl rfl ?_
  refine j_iload_n (q := 2) hx (dc kX11_fact_0 1 rfl) rfl 1 rfl rfl ?_
  refine w_cVIR (q := 5) (As := [.int x1]) (st := []) hx (dc kX11_fact_0 2 rfl) cf11 (by decide) rfl (cI _ my_X11_isFact lm_X11_146 (by decide)) vs_X11_isFact rfl (fun u hu => sX11_isFact _ _ _ _ _ _ hu) (fun e => ite_ne (by unfold mX11_isFact at e; exact e)) (Nat.zero_le _) rfl (fun v1 => ?_)
  refine j_if_neS (q := 8) (tgt := 10) hx (dc kX11_fact_0 3 rfl) (by decide) rfl ?_ ?_
  · refine j_iload_n (q := 11) hx (dc kX11_fact_0 6 rfl) rfl 2 rfl rfl ?_
    refine j_tsw (td := 108) hx (dc kX11_fact_0 7 rfl) (by decide) (by decide) ?_ ?_
    · refine j_iconst (q := 109) (v := (-1 : Int32)) hx (dc kX11_fact_0 42 rfl) (by decide) rfl ?_
      exact r_iR hx hR (dc kX11_fact_0 43 rfl)
    · refine ⟨⟨40, by decide, ?_⟩, ⟨52, by decide, ?_⟩, ⟨61, by decide, ?_⟩, ⟨99, by decide, ?_⟩, trivial⟩
      · refine j_aload_n (q := 41) hx (dc kX11_fact_0 8 rfl) rfl 0 rfl rfl ?_
        refine w_gR (q := 44) hx (dc kX11_fact_0 9 rfl) ff_X11_3 lk_X11_33 rfl (fun v3 => ?_)
        refine w_gR (q := 47) hx (dc kX11_fact_0 10 rfl) ff_X1_6 lk_X11_149 rfl (fun v4 => ?_)
        refine j_iload_n (q := 48) hx (dc kX11_fact_0 11 rfl) rfl 1 rfl rfl ?_
        refine w_cSIR (q := 51) (As := [vR x.2.2.2 v4, .int x1]) (st := []) hx (dc kX11_fact_0 12 rfl) (cI _ my_X11_at lm_X11_152 (by decide)) st_X11_at rfl (fun u hu => sX11_at _ _ _ _ _ _ hu) (Nat.zero_le _) rfl (fun v5 => ?_)
        exact r_iR hx hR (dc kX11_fact_0 13 rfl)
      · refine j_aload_n (q := 53) hx (dc kX11_fact_0 14 rfl) rfl 0 rfl rfl ?_
        refine w_gR (q := 56) hx (dc kX11_fact_0 15 rfl) ff_X11_5 lk_X11_43 rfl (fun v7 => ?_)
        refine j_iload_n (q := 57) hx (dc kX11_fact_0 16 rfl) rfl 1 rfl rfl ?_
        refine w_cVIR (q := 60) (As := [.int x1]) (st := []) hx (dc kX11_fact_0 17 rfl) cf5 (by decide) rfl (cI _ my_X5_howIs lm_X11_156 (by decide)) vs_X5_howIs rfl (fun u hu => sX5_howIs _ _ _ _ _ _ hu) (fun e => ite_ne (by unfold mX5_howIs at e; exact e)) (Nat.zero_le _) rfl (fun v8 => ?_)
        exact r_iR hx hR (dc kX11_fact_0 18 rfl)
      · refine j_aload_n (q := 62) hx (dc kX11_fact_0 19 rfl) rfl 0 rfl rfl ?_
        refine w_gR (q := 65) hx (dc kX11_fact_0 20 rfl) ff_X11_5 lk_X11_43 rfl (fun v10 => ?_)
        refine w_cVIR (q := 68) (As := []) (st := []) hx (dc kX11_fact_0 21 rfl) cf5 (by decide) rfl (cI _ my_X5_known lm_X11_160 (by decide)) vs_X5_known rfl (fun u hu => sX5_known _ _ _ _ _ hu) (fun e => ite_ne (by unfold mX5_known at e; exact e)) (Nat.zero_le _) rfl (fun v11 => ?_)
        refine j_iload_n (q := 69) hx (dc kX11_fact_0 22 rfl) rfl 1 rfl rfl ?_
        refine w_cSIR (q := 72) (As := [.int v11, .int x1]) (st := []) hx (dc kX11_fact_0 23 rfl) (cI _ my_X11_has lm_X11_164 (by decide)) st_X11_has rfl (fun u hu => sX11_has _ _ _ _ _ _ hu) (Nat.zero_le _) rfl (fun v13 => ?_)
        refine j_if_neS (q := 75) (tgt := 79) hx (dc kX11_fact_0 24 rfl) (by decide) rfl ?_ ?_
        · refine j_aload_n (q := 80) hx (dc kX11_fact_0 27 rfl) rfl 0 rfl rfl ?_
          refine w_gR (q := 83) hx (dc kX11_fact_0 28 rfl) ff_X11_5 lk_X11_43 rfl (fun v15 => ?_)
          refine w_gI (q := 86) hx (dc kX11_fact_0 29 rfl) ff_X5_8 lk_X11_168 rfl (fun v16 => ?_)
          refine j_iload_n (q := 87) hx (dc kX11_fact_0 30 rfl) rfl 1 rfl rfl ?_
          refine w_cSIR (q := 90) (As := [.int v16, .int x1]) (st := []) hx (dc kX11_fact_0 31 rfl) (cI _ my_X11_has lm_X11_164 (by decide)) st_X11_has rfl (fun u hu => sX11_has _ _ _ _ _ _ hu) (Nat.zero_le _) rfl (fun v17 => ?_)
          refine j_if_eq (q := 93) (tgt := 97) hx (dc kX11_fact_0 32 rfl) (by decide) Iff.rfl rfl ?_ ?_
          · refine j_iconst (q := 98) (v := (0 : Int32)) hx (dc kX11_fact_0 35 rfl) (by decide) rfl ?_
            exact r_iR hx hR (dc kX11_fact_0 36 rfl)
          · refine j_iconst (q := 94) (v := (1 : Int32)) hx (dc kX11_fact_0 33 rfl) (by decide) rfl ?_
            refine j_goto (q := 98) hx (dc kX11_fact_0 34 rfl) (by decide) ?_
            exact r_iR hx hR (dc kX11_fact_0 36 rfl)
        · refine j_iconst (q := 76) (v := (2 : Int32)) hx (dc kX11_fact_0 25 rfl) (by decide) rfl ?_
          refine j_goto (q := 98) hx (dc kX11_fact_0 26 rfl) (by decide) ?_
          exact r_iR hx hR (dc kX11_fact_0 36 rfl)
      · refine j_aload_n (q := 100) hx (dc kX11_fact_0 37 rfl) rfl 0 rfl rfl ?_
        refine w_gR (q := 103) hx (dc kX11_fact_0 38 rfl) ff_X11_5 lk_X11_43 rfl (fun v19 => ?_)
        refine j_iload_n (q := 104) hx (dc kX11_fact_0 39 rfl) rfl 1 rfl rfl ?_
        refine w_cVIR (q := 107) (As := [.int x1]) (st := []) hx (dc kX11_fact_0 40 rfl) cf5 (by decide) rfl (cI _ my_X5_sayers lm_X11_171 (by decide)) vs_X5_sayers rfl (fun u hu => sX5_sayers _ _ _ _ _ _ hu) (fun e => ite_ne (by unfold mX5_sayers at e; exact e)) (Nat.zero_le _) rfl (fun v20 => ?_)
        exact r_iR hx hR (dc kX11_fact_0 41 rfl)
  · refine j_iconst (q := 9) (v := (-1 : Int32)) hx (dc kX11_fact_0 4 rfl) (by decide) rfl ?_
    exact r_iR hx hR (dc kX11_fact_0 5 rfl)

set_option maxHeartbeats 4000000 in
set_option maxRecDepth 100000 in
theorem sX11_isCount (l : Launch) (w : Wd) (x0 : Nat) (x1 : Int32) (h : Hp) (u : Int32) (hK : mX11_isCount x0 x1 h = some u) : M1 l w mi_X11_isCount 1 [vR w x0, .int x1] h h (some (.int u)) := by
  refine M1.of (own := RX11) (T := fun _ r => r = u) hK (by decide +kernel) rfl (by first | (simp only [lg_lenR, lg_lenI, lg_lenL, lg_len0]; decide) | decide) (fun x hx hnl hhf hl hw hret hnm hQ h0e => ⟨?_, rfl⟩)
  subst hw
  subst hl
  have hR : Rt x h h (some (.int u)) ((some .boolean)) := ⟨h0e, hhf, hret, hQ⟩
  have hn : ∀ i, i < 2 → i < x.2.2.1.1.1 := fun i hi => by rw [hnl]; exact hi
  have e0 : lv_args 0 [vR x.2.2.2 x0, .int x1] = [(0, vR x.2.2.2 x0), (1, .int x1)] := by simp only [lv_argsR, lv_argsI, lv_argsL, lv_args0]
  rw [e0]
  unfold mX11_isCount
  refine J.ckd fun hck => ?_
  refine j_iload_n (q := 1) hx (dc kX11_isCount_0 0 rfl) rfl 1 rfl rfl ?_
  refine j_if_lt (q := 4) (tgt := 19) hx (dc kX11_isCount_0 1 rfl) (by decide) Iff.rfl rfl ?_ ?_
  · refine j_iconst (q := 20) (v := (0 : Int32)) hx (dc kX11_isCount_0 9 rfl) (by decide) rfl ?_
    exact r_cR hx (Or.inl rfl) hR (dc kX11_isCount_0 10 rfl)
  · refine j_iload_n (q := 5) hx (dc kX11_isCount_0 2 rfl) rfl 1 rfl rfl ?_
    refine j_aload_n (q := 6) hx (dc kX11_isCount_0 3 rfl) rfl 0 rfl rfl ?_
    refine w_gR (q := 9) hx (dc kX11_isCount_0 4 rfl) ff_X11_5 lk_X11_43 rfl (fun v1 => ?_)
    refine w_gI (q := 12) hx (dc kX11_isCount_0 5 rfl) ff_X5_2 lk_X11_264 rfl (fun v2 => ?_)
    refine j_icmp_geS (q := 15) (tgt := 19) hx (dc kX11_isCount_0 6 rfl) (by decide) rfl ?_ ?_
    · refine j_iconst (q := 20) (v := (0 : Int32)) hx (dc kX11_isCount_0 9 rfl) (by decide) rfl ?_
      exact r_cR hx (Or.inl rfl) hR (dc kX11_isCount_0 10 rfl)
    · refine j_iconst (q := 16) (v := (1 : Int32)) hx (dc kX11_isCount_0 7 rfl) (by decide) rfl ?_
      refine j_goto (q := 20) hx (dc kX11_isCount_0 8 rfl) (by decide) ?_
      exact r_cR hx (Or.inr rfl) hR (dc kX11_isCount_0 10 rfl)

set_option maxHeartbeats 4000000 in
set_option maxRecDepth 100000 in
theorem sX11_leastBack (l : Launch) (w : Wd) (x0 : Nat) (x1 : Int32) (x2 : Int32) (h : Hp) (u : Int32) (hK : mX11_leastBack x0 x1 x2 h = some u) : M1 l w mi_X11_leastBack 2 [vR w x0, .int x1, .int x2] h h (some (.int u)) := by
  refine M1.of (own := RX11) (T := fun _ r => r = u) hK (by decide +kernel) rfl (by first | (simp only [lg_lenR, lg_lenI, lg_lenL, lg_len0]; decide) | decide) (fun x hx hnl hhf hl hw hret hnm hQ h0e => ⟨?_, rfl⟩)
  subst hw
  subst hl
  have hR : Rt x h h (some (.int u)) ((some .int)) := ⟨h0e, hhf, hret, hQ⟩
  have hn : ∀ i, i < 7 → i < x.2.2.1.1.1 := fun i hi => by rw [hnl]; exact hi
  have e0 : lv_args 0 [vR x.2.2.2 x0, .int x1, .int x2] = [(0, vR x.2.2.2 x0), (1, .int x1), (2, .int x2)] := by simp only [lv_argsR, lv_argsI, lv_argsL, lv_args0]
  rw [e0]
  have hb18 : ∀ (x0 : Nat) (x1 : Int32) (x2 : Int32) (x3 : Int32) (x4 : Int32) (x5 : Int32), J x 18 [(0, vR x.2.2.2 x0), (1, .int x1), (2, .int x2), (3, .int x3), (4, .int x4), (5, .int x5)] [] h (mX11_leastBack_l18 x0 x1 x2 x3 x4 x5 h) (fun r => r = u) := by
    intro x0 x1 x2 x3 x4 x5
    have hB : ∀ (x4 : Int32) (x5 : Int32), J x 18 [(0, vR x.2.2.2 x0), (1, .int x1), (2, .int x2), (3, .int x3), (4, .int x4), (5, .int x5)] [] h (mX11_leastBack_l18f x0 x1 x2 x3 h x4 x5) (TLo (S := (Int32 × Int32)) x 18 (fun s => [(0, vR x.2.2.2 x0), (1, .int x1), (2, .int x2), (3, .int x3), (4, .int s.1), (5, .int s.2)]) [] (fun s => h) (fun r => r = u)) := by
      intro x4 x5
      have hb97 : ∀ (x0 : Nat) (x1 : Int32) (x2 : Int32) (x3 : Int32) (x4 : Int32) (x5 : Int32), J x 97 [(0, vR x.2.2.2 x0), (1, .int x1), (2, .int x2), (3, .int x3), (4, .int x4), (5, .int x5)] [] h (mX11_leastBack_b97 x0 x1 x2 x3 x4 x5 h) (TLo (S := (Int32 × Int32)) x 18 (fun s => [(0, vR x.2.2.2 x0), (1, .int x1), (2, .int x2), (3, .int x3), (4, .int s.1), (5, .int s.2)]) [] (fun s => h) (fun r => r = u)) := by
        intro x0 x1 x2 x3 x4 x5
        unfold mX11_leastBack_b97
        refine j_iinc (q := 100) (l2 := [(0, vR x.2.2.2 x0), (1, .int x1), (2, .int x2), (3, .int x3), (4, .int x4)]) hx (dc kX11_leastBack_0 47 rfl) 5 rfl (v := (1 : Int32)) (by decide) (hn 5 (by decide)) [0, 1, 2, 3, 4] rfl ⟨⟨show (0 : Nat) ≠ 5 by decide, Or.inl (show (0 : Nat) + 1 ≠ 5 by decide)⟩, ⟨⟨show (1 : Nat) ≠ 5 by decide, Or.inl (show (1 : Nat) + 1 ≠ 5 by decide)⟩, ⟨⟨show (2 : Nat) ≠ 5 by decide, Or.inl (show (2 : Nat) + 1 ≠ 5 by decide)⟩, ⟨⟨show (3 : Nat) ≠ 5 by decide, Or.inl (show (3 : Nat) + 1 ≠ 5 by decide)⟩, ⟨⟨show (4 : Nat) ≠ 5 by decide, Or.inr rfl⟩, trivial⟩⟩⟩⟩⟩ rfl ?_
        refine j_goto (q := 18) hx (dc kX11_leastBack_0 48 rfl) (by decide) ?_
        exact j_back [1, 2, 3, 4, 5, 0] (x4, (x5 + (1 : Int32))) rfl rfl
      unfold mX11_leastBack_l18f
      refine j_iload (q := 20) hx (dc kX11_leastBack_0 10 rfl) 5 rfl rfl ?_
      refine j_iload_n (q := 21) hx (dc kX11_leastBack_0 11 rfl) rfl 1 rfl rfl ?_
      refine j_icmp_geS (q := 24) (tgt := 103) hx (dc kX11_leastBack_0 12 rfl) (by decide) rfl ?_ ?_
      · refine j_exit ?_
        refine j_iload (q := 105) hx (dc kX11_leastBack_0 49 rfl) 4 rfl rfl ?_
        exact r_iR hx hR (dc kX11_leastBack_0 50 rfl)
      · refine j_iload (q := 26) hx (dc kX11_leastBack_0 13 rfl) 5 rfl rfl ?_
        refine j_bipush (q := 28) (v := (8 : Int32)) hx (dc kX11_leastBack_0 14 rfl) (by decide) rfl ?_
        refine j_icmp_geS (q := 31) (tgt := 103) hx (dc kX11_leastBack_0 15 rfl) (by decide) rfl ?_ ?_
        · refine j_exit ?_
          refine j_iload (q := 105) hx (dc kX11_leastBack_0 49 rfl) 4 rfl rfl ?_
          exact r_iR hx hR (dc kX11_leastBack_0 50 rfl)
        · refine j_iload_n (q := 32) hx (dc kX11_leastBack_0 16 rfl) rfl 2 rfl rfl ?_
          refine j_if_eq (q := 35) (tgt := 103) hx (dc kX11_leastBack_0 17 rfl) (by decide) Iff.rfl rfl ?_ ?_
          · refine j_exit ?_
            refine j_iload (q := 105) hx (dc kX11_leastBack_0 49 rfl) 4 rfl rfl ?_
            exact r_iR hx hR (dc kX11_leastBack_0 50 rfl)
          · refine j_aload_n (q := 36) hx (dc kX11_leastBack_0 18 rfl) rfl 0 rfl rfl ?_
            refine w_gR (q := 39) hx (dc kX11_leastBack_0 19 rfl) ff_X11_5 lk_X11_43 rfl (fun v5 => ?_)
            refine w_gR (q := 42) hx (dc kX11_leastBack_0 20 rfl) ff_X5_13 lk_X11_198 rfl (fun v6 => ?_)
            refine j_iload (q := 44) hx (dc kX11_leastBack_0 21 rfl) 5 rfl rfl ?_
            refine w_cSIR (q := 47) (As := [vR x.2.2.2 v6, .int x5]) (st := []) hx (dc kX11_leastBack_0 22 rfl) (cI _ my_X11_at lm_X11_152 (by decide)) st_X11_at rfl (fun u hu => sX11_at _ _ _ _ _ _ hu) (Nat.zero_le _) rfl (fun v7 => ?_)
            refine j_iload_n (q := 48) hx (dc kX11_leastBack_0 23 rfl) rfl 2 rfl rfl ?_
            refine j_iand (q := 49) hx (dc kX11_leastBack_0 24 rfl) rfl ?_
            refine w_cSIR (q := 52) (As := [.int (v7 &&& x2)]) (st := []) hx (dc kX11_leastBack_0 25 rfl) (cI _ my_J6_bitCount_0f7a4 lm_X11_252 (by decide)) st_J6_bitCount_0f7a4 rfl (fun u hu => sJ6_bitCount_0f7a4 _ _ _ _ _ hu) (Nat.zero_le _) rfl (fun v9 => ?_)
            refine j_istore (q := 54) (i := 6) (l2 := [(0, vR x.2.2.2 x0), (1, .int x1), (2, .int x2), (3, .int x3), (4, .int x4), (5, .int x5)]) hx (dc kX11_leastBack_0 26 rfl) (hn 6 (by decide)) [0, 1, 2, 3, 4, 5] rfl ⟨⟨show (0 : Nat) ≠ 6 by decide, Or.inl (show (0 : Nat) + 1 ≠ 6 by decide)⟩, ⟨⟨show (1 : Nat) ≠ 6 by decide, Or.inl (show (1 : Nat) + 1 ≠ 6 by decide)⟩, ⟨⟨show (2 : Nat) ≠ 6 by decide, Or.inl (show (2 : Nat) + 1 ≠ 6 by decide)⟩, ⟨⟨show (3 : Nat) ≠ 6 by decide, Or.inl (show (3 : Nat) + 1 ≠ 6 by decide)⟩, ⟨⟨show (4 : Nat) ≠ 6 by decide, Or.inl (show (4 : Nat) + 1 ≠ 6 by decide)⟩, ⟨⟨show (5 : Nat) ≠ 6 by decide, Or.inr rfl⟩, trivial⟩⟩⟩⟩⟩⟩ rfl ?_
            refine j_aload_n (q := 55) hx (dc kX11_leastBack_0 27 rfl) rfl 1 rfl rfl ?_
            refine w_gR (q := 58) hx (dc kX11_leastBack_0 28 rfl) ff_X11_5 lk_X11_43 rfl (fun v11 => ?_)
            refine w_gR (q := 61) hx (dc kX11_leastBack_0 29 rfl) ff_X5_12 lk_X11_183 rfl (fun v12 => ?_)
            refine j_iload (q := 63) hx (dc kX11_leastBack_0 30 rfl) 6 rfl rfl ?_
            refine w_cSIR (q := 66) (As := [vR x.2.2.2 v12, .int x5]) (st := []) hx (dc kX11_leastBack_0 31 rfl) (cI _ my_X11_at lm_X11_152 (by decide)) st_X11_at rfl (fun u hu => sX11_at _ _ _ _ _ _ hu) (Nat.zero_le _) rfl (fun v13 => ?_)
            refine j_iload_n (q := 67) hx (dc kX11_leastBack_0 32 rfl) rfl 4 rfl rfl ?_
            refine j_icmp_geS (q := 70) (tgt := 97) hx (dc kX11_leastBack_0 33 rfl) (by decide) rfl ?_ ?_
            · exact j_sub [1, 2, 3, 4, 5, 6] rfl (hb97 x0 x1 x2 x3 x4 x5)
            · refine j_iconst (q := 71) (v := (2 : Int32)) hx (dc kX11_leastBack_0 34 rfl) (by decide) rfl ?_
              refine j_iload (q := 73) hx (dc kX11_leastBack_0 35 rfl) 0 rfl rfl ?_
              refine j_imul (q := 74) hx (dc kX11_leastBack_0 36 rfl) rfl ?_
              refine j_iload_n (q := 75) hx (dc kX11_leastBack_0 37 rfl) rfl 3 rfl rfl ?_
              refine w_cSIR (q := 78) (As := [.int x2]) (st := [.int ((2 : Int32) * v9)]) hx (dc kX11_leastBack_0 38 rfl) (cI _ my_J6_bitCount_0f7a4 lm_X11_252 (by decide)) st_J6_bitCount_0f7a4 rfl (fun u hu => sJ6_bitCount_0f7a4 _ _ _ _ _ hu) (sum_le (sum_I sum_nil) (by decide)) rfl (fun v15 => ?_)
              refine j_icmp_lt (q := 81) (tgt := 97) hx (dc kX11_leastBack_0 39 rfl) (by decide) Iff.rfl rfl ?_ ?_
              · exact j_sub [1, 2, 3, 4, 5, 6] rfl (hb97 x0 x1 x2 x3 x4 x5)
              · refine j_iload (q := 83) hx (dc kX11_leastBack_0 40 rfl) 5 rfl rfl ?_
                refine j_aload_n (q := 84) hx (dc kX11_leastBack_0 41 rfl) rfl 1 rfl rfl ?_
                refine w_gR (q := 87) hx (dc kX11_leastBack_0 42 rfl) ff_X11_15 lk_X11_100 rfl (fun v17 => ?_)
                refine j_iload (q := 89) hx (dc kX11_leastBack_0 43 rfl) 6 rfl rfl ?_
                refine w_cSIR (q := 92) (As := [vR x.2.2.2 v17, .int x5]) (st := [.int x4]) hx (dc kX11_leastBack_0 44 rfl) (cI _ my_X11_at lm_X11_152 (by decide)) st_X11_at rfl (fun u hu => sX11_at _ _ _ _ _ _ hu) (sum_le (sum_I sum_nil) (by decide)) rfl (fun v18 => ?_)
                refine w_mmin (q := 95) hx (dc kX11_leastBack_0 45 rfl) lm_X11_367 ms_mmin ms_init mc_mmin (by decide) (Nat.zero_le _) rfl ?_
                refine j_istore (q := 97) (i := 4) (l2 := [(0, vR x.2.2.2 x0), (1, .int x1), (2, .int x2), (3, .int x3), (5, .int x5)]) hx (dc kX11_leastBack_0 46 rfl) (hn 4 (by decide)) [1, 2, 3, 4, 6] rfl ⟨⟨show (0 : Nat) ≠ 4 by decide, Or.inl (show (0 : Nat) + 1 ≠ 4 by decide)⟩, ⟨⟨show (1 : Nat) ≠ 4 by decide, Or.inl (show (1 : Nat) + 1 ≠ 4 by decide)⟩, ⟨⟨show (2 : Nat) ≠ 4 by decide, Or.inl (show (2 : Nat) + 1 ≠ 4 by decide)⟩, ⟨⟨show (3 : Nat) ≠ 4 by decide, Or.inr rfl⟩, ⟨⟨show (5 : Nat) ≠ 4 by decide, Or.inl (show (5 : Nat) + 1 ≠ 4 by decide)⟩, trivial⟩⟩⟩⟩⟩ rfl ?_
                exact j_sub [1, 2, 3, 4, 0, 5] rfl (hb97 x0 x1 x2 x3 (mmin x4 v18) x5)
    exact j_loop (S := (Int32 × Int32)) (lvf := fun s => [(0, vR x.2.2.2 x0), (1, .int x1), (2, .int x2), (3, .int x3), (4, .int s.1), (5, .int s.2)]) (hpf := fun s => h) (f := (fun s : (Int32 × Int32) => mX11_leastBack_l18f x0 x1 x2 x3 h s.1 s.2)) (fun s => hB s.1 s.2) (x4, x5)
  unfold mX11_leastBack
  refine J.ckd fun hck => ?_
  refine j_aload_n (q := 1) hx (dc kX11_leastBack_0 0 rfl) rfl 0 rfl rfl ?_
  refine w_gR (q := 4) hx (dc kX11_leastBack_0 1 rfl) ff_X11_5 lk_X11_43 rfl (fun v1 => ?_)
  refine w_gR (q := 7) hx (dc kX11_leastBack_0 2 rfl) ff_X5_12 lk_X11_183 rfl (fun v2 => ?_)
  refine j_iload_n (q := 8) hx (dc kX11_leastBack_0 3 rfl) rfl 1 rfl rfl ?_
  refine w_cSIR (q := 11) (As := [vR x.2.2.2 v2, .int x1]) (st := []) hx (dc kX11_leastBack_0 4 rfl) (cI _ my_X11_at lm_X11_152 (by decide)) st_X11_at rfl (fun u hu => sX11_at _ _ _ _ _ _ hu) (Nat.zero_le _) rfl (fun v3 => ?_)
  refine j_istore_n (q := 12) (i := 3) (l2 := [(0, vR x.2.2.2 x0), (1, .int x1), (2, .int x2)]) hx (dc kX11_leastBack_0 5 rfl) rfl (hn 3 (by decide)) [0, 1, 2] rfl ⟨⟨show (0 : Nat) ≠ 3 by decide, Or.inl (show (0 : Nat) + 1 ≠ 3 by decide)⟩, ⟨⟨show (1 : Nat) ≠ 3 by decide, Or.inl (show (1 : Nat) + 1 ≠ 3 by decide)⟩, ⟨⟨show (2 : Nat) ≠ 3 by decide, Or.inr rfl⟩, trivial⟩⟩⟩ rfl ?_
  refine j_iload_n (q := 13) hx (dc kX11_leastBack_0 6 rfl) rfl 0 rfl rfl ?_
  refine j_istore (q := 15) (i := 4) (l2 := [(3, .int v3), (0, vR x.2.2.2 x0), (1, .int x1), (2, .int x2)]) hx (dc kX11_leastBack_0 7 rfl) (hn 4 (by decide)) [0, 1, 2, 3] rfl ⟨⟨show (3 : Nat) ≠ 4 by decide, Or.inr rfl⟩, ⟨⟨show (0 : Nat) ≠ 4 by decide, Or.inl (show (0 : Nat) + 1 ≠ 4 by decide)⟩, ⟨⟨show (1 : Nat) ≠ 4 by decide, Or.inl (show (1 : Nat) + 1 ≠ 4 by decide)⟩, ⟨⟨show (2 : Nat) ≠ 4 by decide, Or.inl (show (2 : Nat) + 1 ≠ 4 by decide)⟩, trivial⟩⟩⟩⟩ rfl ?_
  refine j_iconst (q := 16) (v := (0 : Int32)) hx (dc kX11_leastBack_0 8 rfl) (by decide) rfl ?_
  refine j_istore (q := 18) (i := 5) (l2 := [(4, .int v3), (3, .int v3), (0, vR x.2.2.2 x0), (1, .int x1), (2, .int x2)]) hx (dc kX11_leastBack_0 9 rfl) (hn 5 (by decide)) [0, 1, 2, 3, 4] rfl ⟨⟨show (4 : Nat) ≠ 5 by decide, Or.inr rfl⟩, ⟨⟨show (3 : Nat) ≠ 5 by decide, Or.inl (show (3 : Nat) + 1 ≠ 5 by decide)⟩, ⟨⟨show (0 : Nat) ≠ 5 by decide, Or.inl (show (0 : Nat) + 1 ≠ 5 by decide)⟩, ⟨⟨show (1 : Nat) ≠ 5 by decide, Or.inl (show (1 : Nat) + 1 ≠ 5 by decide)⟩, ⟨⟨show (2 : Nat) ≠ 5 by decide, Or.inl (show (2 : Nat) + 1 ≠ 5 by decide)⟩, trivial⟩⟩⟩⟩⟩ rfl ?_
  exact j_sub [3, 4, 5, 2, 1, 0] rfl (hb18 x0 x1 x2 v3 v3 (0 : Int32))

set_option maxHeartbeats 4000000 in
set_option maxRecDepth 100000 in
theorem sX11_workOutBacks (l : Launch) (w : Wd) (x0 : Nat) (x1 : Int32) (h : Hp) (u : Hp) (hK : mX11_workOutBacks x0 x1 h = some u) : M1 l w mi_X11_workOutBacks 3 [vR w x0, .int x1] h u (none) := by
  refine M1.of (own := RX11) (T := fun _ r => r = u) hK (by decide +kernel) rfl (by first | (simp only [lg_lenR, lg_lenI, lg_lenL, lg_len0]; decide) | decide) (fun x hx hnl hhf hl hw hret hnm hQ h0e => ⟨?_, rfl⟩)
  subst hw
  subst hl
  have hR : Rt x h u (none) (none) := ⟨h0e, hhf, hret, hQ⟩
  have hn : ∀ i, i < 3 → i < x.2.2.1.1.1 := fun i hi => by rw [hnl]; exact hi
  have e0 : lv_args 0 [vR x.2.2.2 x0, .int x1] = [(0, vR x.2.2.2 x0), (1, .int x1)] := by simp only [lv_argsR, lv_argsI, lv_argsL, lv_args0]
  rw [e0]
  have hb2 : ∀ (x0 : Nat) (x1 : Int32) (x2 : Int32) (h : Hp), J x 2 [(0, vR x.2.2.2 x0), (1, .int x1), (2, .int x2)] [] h (mX11_workOutBacks_l2 x0 x1 x2 h) (fun r => r = u) := by
    intro x0 x1 x2 h
    have hB : ∀ (x2 : Int32) (h : Hp), J x 2 [(0, vR x.2.2.2 x0), (1, .int x1), (2, .int x2)] [] h (mX11_workOutBacks_l2f x0 x1 x2 h) (TLo (S := (Int32 × Hp)) x 2 (fun s => [(0, vR x.2.2.2 x0), (1, .int x1), (2, .int s.1)]) [] (fun s => s.2) (fun r => r = u)) := by
      intro x2 h
      unfold mX11_workOutBacks_l2f
      refine j_iload_n (q := 3) hx (dc kX11_workOutBacks_0 2 rfl) rfl 2 rfl rfl ?_
      refine j_iload_n (q := 4) hx (dc kX11_workOutBacks_0 3 rfl) rfl 1 rfl rfl ?_
      refine j_icmp_geS (q := 7) (tgt := 43) hx (dc kX11_workOutBacks_0 4 rfl) (by decide) rfl ?_ ?_
      · refine j_exit ?_
        exact r_vW hx hR (dc kX11_workOutBacks_0 22 rfl)
      · refine j_iload_n (q := 8) hx (dc kX11_workOutBacks_0 5 rfl) rfl 2 rfl rfl ?_
        refine j_bipush (q := 10) (v := (8 : Int32)) hx (dc kX11_workOutBacks_0 6 rfl) (by decide) rfl ?_
        refine j_icmp_geS (q := 13) (tgt := 43) hx (dc kX11_workOutBacks_0 7 rfl) (by decide) rfl ?_ ?_
        · refine j_exit ?_
          exact r_vW hx hR (dc kX11_workOutBacks_0 22 rfl)
        · refine j_aload_n (q := 14) hx (dc kX11_workOutBacks_0 8 rfl) rfl 0 rfl rfl ?_
          refine w_gR (q := 17) hx (dc kX11_workOutBacks_0 9 rfl) ff_X11_15 lk_X11_100 rfl (fun v1 => ?_)
          refine j_iload_n (q := 18) hx (dc kX11_workOutBacks_0 10 rfl) rfl 2 rfl rfl ?_
          refine j_aload_n (q := 19) hx (dc kX11_workOutBacks_0 11 rfl) rfl 0 rfl rfl ?_
          refine j_iload_n (q := 20) hx (dc kX11_workOutBacks_0 12 rfl) rfl 2 rfl rfl ?_
          refine j_aload_n (q := 21) hx (dc kX11_workOutBacks_0 13 rfl) rfl 0 rfl rfl ?_
          refine w_gR (q := 24) hx (dc kX11_workOutBacks_0 14 rfl) ff_X11_5 lk_X11_43 rfl (fun v2 => ?_)
          refine w_gR (q := 27) hx (dc kX11_workOutBacks_0 15 rfl) ff_X5_13 lk_X11_198 rfl (fun v3 => ?_)
          refine j_iload_n (q := 28) hx (dc kX11_workOutBacks_0 16 rfl) rfl 2 rfl rfl ?_
          refine w_cSIR (q := 31) (As := [vR x.2.2.2 v3, .int x2]) (st := [.int x2, vR x.2.2.2 x0, .int x2, vR x.2.2.2 v1]) hx (dc kX11_workOutBacks_0 17 rfl) (cI _ my_X11_at lm_X11_152 (by decide)) st_X11_at rfl (fun u hu => sX11_at _ _ _ _ _ _ hu) (sum_le (sum_I (sum_R (sum_I (sum_R sum_nil)))) (by decide)) rfl (fun v4 => ?_)
          refine w_cVIR (q := 34) (As := [.int x2, .int v4]) (st := [.int x2, vR x.2.2.2 v1]) hx (dc kX11_workOutBacks_0 18 rfl) cf11 (by decide) rfl (cI _ my_X11_leastBack lm_X11_438 (by decide)) vs_X11_leastBack rfl (fun u hu => sX11_leastBack _ _ _ _ _ _ _ hu) (fun e => ite_ne (by unfold mX11_leastBack at e; exact e)) (sum_le (sum_I (sum_R sum_nil)) (by decide)) rfl (fun v6 => ?_)
          refine w_cSVW (q := 37) (As := [vR x.2.2.2 v1, .int x2, .int v6]) (st := []) hx (dc kX11_workOutBacks_0 19 rfl) (cI _ my_X11_put lm_X11_441 (by decide)) st_X11_put rfl (fun u hu => sX11_put _ _ _ _ _ _ _ hu) (Nat.zero_le _) rfl (fun h9 => ?_)
          refine j_iinc (q := 40) (l2 := [(0, vR x.2.2.2 x0), (1, .int x1)]) hx (dc kX11_workOutBacks_0 20 rfl) 2 rfl (v := (1 : Int32)) (by decide) (hn 2 (by decide)) [0, 1] rfl ⟨⟨show (0 : Nat) ≠ 2 by decide, Or.inl (show (0 : Nat) + 1 ≠ 2 by decide)⟩, ⟨⟨show (1 : Nat) ≠ 2 by decide, Or.inr rfl⟩, trivial⟩⟩ rfl ?_
          refine j_goto (q := 2) hx (dc kX11_workOutBacks_0 21 rfl) (by decide) ?_
          exact j_back [1, 2, 0] ((x2 + (1 : Int32)), h9) rfl rfl
    exact j_loop (S := (Int32 × Hp)) (lvf := fun s => [(0, vR x.2.2.2 x0), (1, .int x1), (2, .int s.1)]) (hpf := fun s => s.2) (f := (fun s : (Int32 × Hp) => mX11_workOutBacks_l2f x0 x1 s.1 s.2)) (fun s => hB s.1 s.2) (x2, h)
  unfold mX11_workOutBacks
  refine J.ckd fun hck => ?_
  refine j_iconst (q := 1) (v := (0 : Int32)) hx (dc kX11_workOutBacks_0 0 rfl) (by decide) rfl ?_
  refine j_istore_n (q := 2) (i := 2) (l2 := [(0, vR x.2.2.2 x0), (1, .int x1)]) hx (dc kX11_workOutBacks_0 1 rfl) rfl (hn 2 (by decide)) [0, 1] rfl ⟨⟨show (0 : Nat) ≠ 2 by decide, Or.inl (show (0 : Nat) + 1 ≠ 2 by decide)⟩, ⟨⟨show (1 : Nat) ≠ 2 by decide, Or.inr rfl⟩, trivial⟩⟩ rfl ?_
  exact j_sub [1, 2, 0] rfl (hb2 x0 x1 (0 : Int32) h)

set_option maxHeartbeats 4000000 in
set_option maxRecDepth 100000 in
theorem sX11_age (l : Launch) (w : Wd) (x0 : Nat) (x1 : Int32) (h : Hp) (u : (Int32 × Hp)) (hK : mX11_age x0 x1 h = some u) : M1 l w mi_X11_age 4 [vR w x0, .int x1] h u.2 (some (.int u.1)) := by
  refine M1.of (own := RX11) (T := fun _ r => r = u) hK (by decide +kernel) rfl (by first | (simp only [lg_lenR, lg_lenI, lg_lenL, lg_len0]; decide) | decide) (fun x hx hnl hhf hl hw hret hnm hQ h0e => ⟨?_, rfl⟩)
  subst hw
  subst hl
  have hR : Rt x h u.2 (some (.int u.1)) ((some .int)) := ⟨h0e, hhf, hret, hQ⟩
  have hn : ∀ i, i < 2 → i < x.2.2.1.1.1 := fun i hi => by rw [hnl]; exact hi
  have e0 : lv_args 0 [vR x.2.2.2 x0, .int x1] = [(0, vR x.2.2.2 x0), (1, .int x1)] := by simp only [lv_argsR, lv_argsI, lv_argsL, lv_args0]
  rw [e0]
  unfold mX11_age
  refine J.ckd fun hck => ?_
  refine j_aload_n (q := 1) hx (dc kX11_age_0 0 rfl) rfl 0 rfl rfl ?_
  refine j_iload_n (q := 2) hx (dc kX11_age_0 1 rfl) rfl 1 rfl rfl ?_
  refine w_cVVW (q := 5) (As := [.int x1]) (st := []) hx (dc kX11_age_0 2 rfl) cf11 (by decide) rfl (cI _ my_X11_workOutBacks lm_X11_435 (by decide)) vs_X11_workOutBacks rfl (fun u hu => sX11_workOutBacks _ _ _ _ _ _ hu) (fun e => ite_ne (by unfold mX11_workOutBacks at e; exact e)) (Nat.zero_le _) rfl (fun h2 => ?_)
  refine j_aload_n (q := 6) hx (dc kX11_age_0 3 rfl) rfl 0 rfl rfl ?_
  refine w_gR (q := 9) hx (dc kX11_age_0 4 rfl) ff_X11_5 lk_X11_43 rfl (fun v3 => ?_)
  refine w_gR (q := 12) hx (dc kX11_age_0 5 rfl) ff_X5_11 lk_X11_180 rfl (fun v4 => ?_)
  refine j_iload_n (q := 13) hx (dc kX11_age_0 6 rfl) rfl 1 rfl rfl ?_
  refine w_cSIR (q := 16) (As := [vR x.2.2.2 v4, .int x1]) (st := []) hx (dc kX11_age_0 7 rfl) (cI _ my_X11_at lm_X11_152 (by decide)) st_X11_at rfl (fun u hu => sX11_at _ _ _ _ _ _ hu) (Nat.zero_le _) rfl (fun v5 => ?_)
  refine j_aload_n (q := 17) hx (dc kX11_age_0 8 rfl) rfl 0 rfl rfl ?_
  refine j_iload_n (q := 18) hx (dc kX11_age_0 9 rfl) rfl 1 rfl rfl ?_
  refine j_aload_n (q := 19) hx (dc kX11_age_0 10 rfl) rfl 0 rfl rfl ?_
  refine w_gR (q := 22) hx (dc kX11_age_0 11 rfl) ff_X11_5 lk_X11_43 rfl (fun v7 => ?_)
  refine w_gR (q := 25) hx (dc kX11_age_0 12 rfl) ff_X5_13 lk_X11_198 rfl (fun v8 => ?_)
  refine j_iload_n (q := 26) hx (dc kX11_age_0 13 rfl) rfl 1 rfl rfl ?_
  refine w_cSIR (q := 29) (As := [vR x.2.2.2 v8, .int x1]) (st := [.int x1, vR x.2.2.2 x0, .int v5]) hx (dc kX11_age_0 14 rfl) (cI _ my_X11_at lm_X11_152 (by decide)) st_X11_at rfl (fun u hu => sX11_at _ _ _ _ _ _ hu) (sum_le (sum_I (sum_R (sum_I sum_nil))) (by decide)) rfl (fun v9 => ?_)
  refine w_cVIR (q := 32) (As := [.int x1, .int v9]) (st := [.int v5]) hx (dc kX11_age_0 15 rfl) cf11 (by decide) rfl (cI _ my_X11_leastBack lm_X11_438 (by decide)) vs_X11_leastBack rfl (fun u hu => sX11_leastBack _ _ _ _ _ _ _ hu) (fun e => ite_ne (by unfold mX11_leastBack at e; exact e)) (sum_le (sum_I sum_nil) (by decide)) rfl (fun v11 => ?_)
  refine j_iadd (q := 33) hx (dc kX11_age_0 16 rfl) rfl ?_
  exact r_iW hx hR (dc kX11_age_0 17 rfl)

set_option maxHeartbeats 4000000 in
set_option maxRecDepth 100000 in
theorem sX11_kind (l : Launch) (w : Wd) (x0 : Nat) (x1 : Int32) (h : Hp) (u : Int32) (hK : mX11_kind x0 x1 h = some u) : M1 l w mi_X11_kind 2 [vR w x0, .int x1] h h (some (.int u)) := by
  refine M1.of (own := RX11) (T := fun _ r => r = u) hK (by decide +kernel) rfl (by first | (simp only [lg_lenR, lg_lenI, lg_lenL, lg_len0]; decide) | decide) (fun x hx hnl hhf hl hw hret hnm hQ h0e => ⟨?_, rfl⟩)
  subst hw
  subst hl
  have hR : Rt x h h (some (.int u)) ((some .int)) := ⟨h0e, hhf, hret, hQ⟩
  have hn : ∀ i, i < 2 → i < x.2.2.1.1.1 := fun i hi => by rw [hnl]; exact hi
  have e0 : lv_args 0 [vR x.2.2.2 x0, .int x1] = [(0, vR x.2.2.2 x0), (1, .int x1)] := by simp only [lv_argsR, lv_argsI, lv_argsL, lv_args0]
  rw [e0]
  unfold mX11_kind
  refine J.ckd fun hck => ?_
  refine j_aload_n (q := 1) hx (dc kX11_kind_0 0 rfl) rfl 0 rfl rfl ?_
  refine w_gR (q := 4) hx (dc kX11_kind_0 1 rfl) ff_X11_5 lk_X11_43 rfl (fun v1 => ?_)
  refine w_gR (q := 7) hx (dc kX11_kind_0 2 rfl) ff_X5_9 lk_X11_419 rfl (fun v2 => ?_)
  refine j_iload_n (q := 8) hx (dc kX11_kind_0 3 rfl) rfl 1 rfl rfl ?_
  refine w_cSIR (q := 11) (As := [vR x.2.2.2 v2, .int x1]) (st := []) hx (dc kX11_kind_0 4 rfl) (cI _ my_X11_at lm_X11_152 (by decide)) st_X11_at rfl (fun u hu => sX11_at _ _ _ _ _ _ hu) (Nat.zero_le _) rfl (fun v3 => ?_)
  exact r_iR hx hR (dc kX11_kind_0 5 rfl)

set_option maxHeartbeats 4000000 in
set_option maxRecDepth 100000 in
theorem sX11_remember (l : Launch) (w : Wd) (x0 : Nat) (h : Hp) (u : Hp) (hK : mX11_remember x0 h = some u) : M1 l w mi_X11_remember 3 [vR w x0] h u (none) := by
  refine M1.of (own := RX11) (T := fun _ r => r = u) hK (by decide +kernel) rfl (by first | (simp only [lg_lenR, lg_lenI, lg_lenL, lg_len0]; decide) | decide) (fun x hx hnl hhf hl hw hret hnm hQ h0e => ⟨?_, rfl⟩)
  subst hw
  subst hl
  have hR : Rt x h u (none) (none) := ⟨h0e, hhf, hret, hQ⟩
  have hn : ∀ i, i < 1 → i < x.2.2.1.1.1 := fun i hi => by rw [hnl]; exact hi
  have e0 : lv_args 0 [vR x.2.2.2 x0] = [(0, vR x.2.2.2 x0)] := by simp only [lv_argsR, lv_argsI, lv_argsL, lv_args0]
  rw [e0]
  unfold mX11_remember
  refine J.ckd fun hck => ?_
  refine j_aload_n (q := 1) hx (dc kX11_remember_0 0 rfl) rfl 0 rfl rfl ?_
  refine w_gR (q := 4) hx (dc kX11_remember_0 1 rfl) ff_X11_9 lk_X11_69 rfl (fun v1 => ?_)
  refine j_aload_n (q := 5) hx (dc kX11_remember_0 2 rfl) rfl 0 rfl rfl ?_
  refine w_gR (q := 8) hx (dc kX11_remember_0 3 rfl) ff_X11_3 lk_X11_33 rfl (fun v2 => ?_)
  refine w_gR (q := 11) hx (dc kX11_remember_0 4 rfl) ff_X1_17 lk_X11_287 rfl (fun v3 => ?_)
  refine w_cVVW (q := 14) (As := [vR x.2.2.2 v3]) (st := []) hx (dc kX11_remember_0 5 rfl) cf10 (by decide) rfl (cI _ my_X10_copy lm_X11_422 (by decide)) vs_X10_copy rfl (fun u hu => sX10_copy _ _ _ _ _ _ hu) (fun e => ite_ne (by unfold mX10_copy at e; exact e)) (Nat.zero_le _) rfl (fun h5 => ?_)
  refine j_aload_n (q := 15) hx (dc kX11_remember_0 6 rfl) rfl 0 rfl rfl ?_
  refine w_gR (q := 18) hx (dc kX11_remember_0 7 rfl) ff_X11_9 lk_X11_69 rfl (fun v6 => ?_)
  refine j_aload_n (q := 19) hx (dc kX11_remember_0 8 rfl) rfl 0 rfl rfl ?_
  refine w_gR (q := 22) hx (dc kX11_remember_0 9 rfl) ff_X11_5 lk_X11_43 rfl (fun v7 => ?_)
  refine w_cVIR (q := 25) (As := []) (st := [vR x.2.2.2 v6]) hx (dc kX11_remember_0 10 rfl) cf5 (by decide) rfl (cI _ my_X5_known lm_X11_160 (by decide)) vs_X5_known rfl (fun u hu => sX5_known _ _ _ _ _ hu) (fun e => ite_ne (by unfold mX5_known at e; exact e)) (sum_le (sum_R sum_nil) (by decide)) rfl (fun v8 => ?_)
  refine j_aload_n (q := 26) hx (dc kX11_remember_0 11 rfl) rfl 0 rfl rfl ?_
  refine w_gR (q := 29) hx (dc kX11_remember_0 12 rfl) ff_X11_5 lk_X11_43 rfl (fun v10 => ?_)
  refine w_gI (q := 32) hx (dc kX11_remember_0 13 rfl) ff_X5_8 lk_X11_168 rfl (fun v11 => ?_)
  refine w_cVVW (q := 35) (As := [.int v8, .int v11]) (st := []) hx (dc kX11_remember_0 14 rfl) cf10 (by decide) rfl (cI _ my_X10_agree lm_X11_296 (by decide)) vs_X10_agree rfl (fun u hu => sX10_agree _ _ _ _ _ _ _ hu) (fun e => ite_ne (by unfold mX10_agree at e; exact e)) (Nat.zero_le _) rfl (fun h13 => ?_)
  exact r_vW hx hR (dc kX11_remember_0 15 rfl)

set_option maxHeartbeats 4000000 in
set_option maxRecDepth 100000 in
theorem sX11_allege (l : Launch) (w : Wd) (x0 : Nat) (x1 : Int32) (h : Hp) (u : Hp) (hK : mX11_allege x0 x1 h = some u) : M1 l w mi_X11_allege 3 [vR w x0, .int x1] h u (none) := by
  refine M1.of (own := RX11) (T := fun _ r => r = u) hK (by decide +kernel) rfl (by first | (simp only [lg_lenR, lg_lenI, lg_lenL, lg_len0]; decide) | decide) (fun x hx hnl hhf hl hw hret hnm hQ h0e => ⟨?_, rfl⟩)
  subst hw
  subst hl
  have hR : Rt x h u (none) (none) := ⟨h0e, hhf, hret, hQ⟩
  have hn : ∀ i, i < 2 → i < x.2.2.1.1.1 := fun i hi => by rw [hnl]; exact hi
  have e0 : lv_args 0 [vR x.2.2.2 x0, .int x1] = [(0, vR x.2.2.2 x0), (1, .int x1)] := by simp only [lv_argsR, lv_argsI, lv_argsL, lv_args0]
  rw [e0]
  unfold mX11_allege
  refine J.ckd fun hck => ?_
  refine j_aload_n (q := 1) hx (dc kX11_allege_0 0 rfl) rfl 0 rfl rfl ?_
  refine w_gR (q := 4) hx (dc kX11_allege_0 1 rfl) ff_X11_10 lk_X11_73 rfl (fun v1 => ?_)
  refine j_aload_n (q := 5) hx (dc kX11_allege_0 2 rfl) rfl 0 rfl rfl ?_
  refine w_gR (q := 8) hx (dc kX11_allege_0 3 rfl) ff_X11_3 lk_X11_33 rfl (fun v2 => ?_)
  refine w_gR (q := 11) hx (dc kX11_allege_0 4 rfl) ff_X1_17 lk_X11_287 rfl (fun v3 => ?_)
  refine w_cVVW (q := 14) (As := [vR x.2.2.2 v3]) (st := []) hx (dc kX11_allege_0 5 rfl) cf10 (by decide) rfl (cI _ my_X10_copy lm_X11_422 (by decide)) vs_X10_copy rfl (fun u hu => sX10_copy _ _ _ _ _ _ hu) (fun e => ite_ne (by unfold mX10_copy at e; exact e)) (Nat.zero_le _) rfl (fun h5 => ?_)
  refine j_aload_n (q := 15) hx (dc kX11_allege_0 6 rfl) rfl 0 rfl rfl ?_
  refine w_gR (q := 18) hx (dc kX11_allege_0 7 rfl) ff_X11_10 lk_X11_73 rfl (fun v6 => ?_)
  refine j_aload_n (q := 19) hx (dc kX11_allege_0 8 rfl) rfl 0 rfl rfl ?_
  refine w_gR (q := 22) hx (dc kX11_allege_0 9 rfl) ff_X11_5 lk_X11_43 rfl (fun v7 => ?_)
  refine w_gR (q := 25) hx (dc kX11_allege_0 10 rfl) ff_X5_13 lk_X11_198 rfl (fun v8 => ?_)
  refine j_iload_n (q := 26) hx (dc kX11_allege_0 11 rfl) rfl 1 rfl rfl ?_
  refine w_cSIR (q := 29) (As := [vR x.2.2.2 v8, .int x1]) (st := [vR x.2.2.2 v6]) hx (dc kX11_allege_0 12 rfl) (cI _ my_X11_at lm_X11_152 (by decide)) st_X11_at rfl (fun u hu => sX11_at _ _ _ _ _ _ hu) (sum_le (sum_R sum_nil) (by decide)) rfl (fun v9 => ?_)
  refine j_aload_n (q := 30) hx (dc kX11_allege_0 13 rfl) rfl 0 rfl rfl ?_
  refine w_gR (q := 33) hx (dc kX11_allege_0 14 rfl) ff_X11_5 lk_X11_43 rfl (fun v11 => ?_)
  refine w_gR (q := 36) hx (dc kX11_allege_0 15 rfl) ff_X5_14 lk_X11_201 rfl (fun v12 => ?_)
  refine j_iload_n (q := 37) hx (dc kX11_allege_0 16 rfl) rfl 1 rfl rfl ?_
  refine w_cSIR (q := 40) (As := [vR x.2.2.2 v12, .int x1]) (st := [.int v9, vR x.2.2.2 v6]) hx (dc kX11_allege_0 17 rfl) (cI _ my_X11_at lm_X11_152 (by decide)) st_X11_at rfl (fun u hu => sX11_at _ _ _ _ _ _ hu) (sum_le (sum_I (sum_R sum_nil)) (by decide)) rfl (fun v13 => ?_)
  refine w_cVVW (q := 43) (As := [.int v9, .int v13]) (st := []) hx (dc kX11_allege_0 18 rfl) cf10 (by decide) rfl (cI _ my_X10_agree lm_X11_296 (by decide)) vs_X10_agree rfl (fun u hu => sX10_agree _ _ _ _ _ _ _ hu) (fun e => ite_ne (by unfold mX10_agree at e; exact e)) (Nat.zero_le _) rfl (fun h16 => ?_)
  exact r_vW hx hR (dc kX11_allege_0 19 rfl)

set_option maxHeartbeats 4000000 in
set_option maxRecDepth 100000 in
theorem sX11_failing (l : Launch) (w : Wd) (x0 : Nat) (x1 : Int32) (h : Hp) (u : (Int32 × Hp)) (hK : mX11_failing x0 x1 h = some u) : M1 l w mi_X11_failing 5 [vR w x0, .int x1] h u.2 (some (.int u.1)) := by
  refine M1.of (own := RX11) (T := fun _ r => r = u) hK (by decide +kernel) rfl (by first | (simp only [lg_lenR, lg_lenI, lg_lenL, lg_len0]; decide) | decide) (fun x hx hnl hhf hl hw hret hnm hQ h0e => ⟨?_, rfl⟩)
  subst hw
  subst hl
  have hR : Rt x h u.2 (some (.int u.1)) ((some .int)) := ⟨h0e, hhf, hret, hQ⟩
  have hn : ∀ i, i < 3 → i < x.2.2.1.1.1 := fun i hi => by rw [hnl]; exact hi
  have e0 : lv_args 0 [vR x.2.2.2 x0, .int x1] = [(0, vR x.2.2.2 x0), (1, .int x1)] := by simp only [lv_argsR, lv_argsI, lv_argsL, lv_args0]
  rw [e0]
  unfold mX11_failing
  refine J.ckd fun hck => ?_
  refine j_aload_n (q := 1) hx (dc kX11_failing_0 0 rfl) rfl 0 rfl rfl ?_
  refine w_gR (q := 4) hx (dc kX11_failing_0 1 rfl) ff_X11_5 lk_X11_43 rfl (fun v1 => ?_)
  refine w_gI (q := 7) hx (dc kX11_failing_0 2 rfl) ff_X5_3 lk_X11_257 rfl (fun v2 => ?_)
  refine j_iload_n (q := 8) hx (dc kX11_failing_0 3 rfl) rfl 1 rfl rfl ?_
  refine w_cSIR (q := 11) (As := [.int v2, .int x1]) (st := []) hx (dc kX11_failing_0 4 rfl) (cI _ my_X11_has lm_X11_164 (by decide)) st_X11_has rfl (fun u hu => sX11_has _ _ _ _ _ _ hu) (Nat.zero_le _) rfl (fun v3 => ?_)
  refine j_if_eq (q := 14) (tgt := 16) hx (dc kX11_failing_0 5 rfl) (by decide) Iff.rfl rfl ?_ ?_
  · refine j_aload_n (q := 17) hx (dc kX11_failing_0 8 rfl) rfl 0 rfl rfl ?_
    refine j_iload_n (q := 18) hx (dc kX11_failing_0 9 rfl) rfl 1 rfl rfl ?_
    refine w_cVVW (q := 21) (As := [.int x1]) (st := []) hx (dc kX11_failing_0 10 rfl) cf11 (by decide) rfl (cI _ my_X11_allege lm_X11_292 (by decide)) vs_X11_allege rfl (fun u hu => sX11_allege _ _ _ _ _ _ hu) (fun e => ite_ne (by unfold mX11_allege at e; exact e)) (Nat.zero_le _) rfl (fun h6 => ?_)
    refine j_aload_n (q := 22) hx (dc kX11_failing_0 11 rfl) rfl 0 rfl rfl ?_
    refine w_gR (q := 25) hx (dc kX11_failing_0 12 rfl) ff_X11_10 lk_X11_73 rfl (fun v7 => ?_)
    refine w_cVIR (q := 28) (As := []) (st := []) hx (dc kX11_failing_0 13 rfl) cf10 (by decide) rfl (cI _ my_X10_isEmpty lm_X11_300 (by decide)) vs_X10_isEmpty rfl (fun u hu => sX10_isEmpty _ _ _ _ _ hu) (fun e => ite_ne (by unfold mX10_isEmpty at e; exact e)) (Nat.zero_le _) rfl (fun v8 => ?_)
    refine j_if_eq (q := 31) (tgt := 33) hx (dc kX11_failing_0 14 rfl) (by decide) Iff.rfl rfl ?_ ?_
    · refine j_aload_n (q := 34) hx (dc kX11_failing_0 17 rfl) rfl 0 rfl rfl ?_
      refine j_iload_n (q := 35) hx (dc kX11_failing_0 18 rfl) rfl 1 rfl rfl ?_
      refine w_cVIR (q := 38) (As := [.int x1]) (st := []) hx (dc kX11_failing_0 19 rfl) cf11 (by decide) rfl (cI _ my_X11_kind lm_X11_192 (by decide)) vs_X11_kind rfl (fun u hu => sX11_kind _ _ _ _ _ _ hu) (fun e => ite_ne (by unfold mX11_kind at e; exact e)) (Nat.zero_le _) rfl (fun v10 => ?_)
      refine j_istore_n (q := 39) (i := 2) (l2 := [(0, vR x.2.2.2 x0), (1, .int x1)]) hx (dc kX11_failing_0 20 rfl) rfl (hn 2 (by decide)) [0, 1] rfl ⟨⟨show (0 : Nat) ≠ 2 by decide, Or.inl (show (0 : Nat) + 1 ≠ 2 by decide)⟩, ⟨⟨show (1 : Nat) ≠ 2 by decide, Or.inr rfl⟩, trivial⟩⟩ rfl ?_
      refine j_aload_n (q := 40) hx (dc kX11_failing_0 21 rfl) rfl 1 rfl rfl ?_
      refine w_gR (q := 43) hx (dc kX11_failing_0 22 rfl) ff_X11_3 lk_X11_33 rfl (fun v12 => ?_)
      refine j_iload_n (q := 44) hx (dc kX11_failing_0 23 rfl) rfl 0 rfl rfl ?_
      refine j_aload_n (q := 45) hx (dc kX11_failing_0 24 rfl) rfl 1 rfl rfl ?_
      refine w_gR (q := 48) hx (dc kX11_failing_0 25 rfl) ff_X11_10 lk_X11_73 rfl (fun v13 => ?_)
      refine w_cVIR (q := 51) (As := [.int v10, vR x.2.2.2 v13]) (st := []) hx (dc kX11_failing_0 26 rfl) cf1 (by decide) rfl (cI _ my_X1_needsSure lm_X11_445 (by decide)) vs_X1_needsSure rfl (fun u hu => sX1_needsSure _ _ _ _ _ _ _ hu) (fun e => ite_ne (by unfold mX1_needsSure at e; exact e)) (Nat.zero_le _) rfl (fun v14 => ?_)
      refine j_if_neS (q := 54) (tgt := 56) hx (dc kX11_failing_0 27 rfl) (by decide) rfl ?_ ?_
      · refine j_aload_n (q := 57) hx (dc kX11_failing_0 30 rfl) rfl 1 rfl rfl ?_
        refine w_gR (q := 60) hx (dc kX11_failing_0 31 rfl) ff_X11_3 lk_X11_33 rfl (fun v16 => ?_)
        refine j_iload_n (q := 61) hx (dc kX11_failing_0 32 rfl) rfl 0 rfl rfl ?_
        refine j_aload_n (q := 62) hx (dc kX11_failing_0 33 rfl) rfl 1 rfl rfl ?_
        refine w_gR (q := 65) hx (dc kX11_failing_0 34 rfl) ff_X11_9 lk_X11_69 rfl (fun v17 => ?_)
        refine w_cVIR (q := 68) (As := [.int v10, vR x.2.2.2 v17]) (st := []) hx (dc kX11_failing_0 35 rfl) cf1 (by decide) rfl (cI _ my_X1_needsMet lm_X11_449 (by decide)) vs_X1_needsMet rfl (fun u hu => sX1_needsMet _ _ _ _ _ _ _ hu) (fun e => ite_ne (by unfold mX1_needsMet at e; exact e)) (Nat.zero_le _) rfl (fun v18 => ?_)
        refine j_if_neS (q := 71) (tgt := 73) hx (dc kX11_failing_0 36 rfl) (by decide) rfl ?_ ?_
        · refine j_aload_n (q := 74) hx (dc kX11_failing_0 39 rfl) rfl 1 rfl rfl ?_
          refine w_gR (q := 77) hx (dc kX11_failing_0 40 rfl) ff_X11_3 lk_X11_33 rfl (fun v20 => ?_)
          refine j_iload_n (q := 78) hx (dc kX11_failing_0 41 rfl) rfl 0 rfl rfl ?_
          refine j_aload_n (q := 79) hx (dc kX11_failing_0 42 rfl) rfl 1 rfl rfl ?_
          refine w_gR (q := 82) hx (dc kX11_failing_0 43 rfl) ff_X11_10 lk_X11_73 rfl (fun v21 => ?_)
          refine w_cVIR (q := 85) (As := [.int v10, vR x.2.2.2 v21]) (st := []) hx (dc kX11_failing_0 44 rfl) cf1 (by decide) rfl (cI _ my_X1_barred lm_X11_452 (by decide)) vs_X1_barred rfl (fun u hu => sX1_barred _ _ _ _ _ _ _ hu) (fun e => ite_ne (by unfold mX1_barred at e; exact e)) (Nat.zero_le _) rfl (fun v22 => ?_)
          refine j_if_neS (q := 88) (tgt := 103) hx (dc kX11_failing_0 45 rfl) (by decide) rfl ?_ ?_
          · refine j_iconst (q := 104) (v := (5 : Int32)) hx (dc kX11_failing_0 53 rfl) (by decide) rfl ?_
            exact r_iW hx hR (dc kX11_failing_0 54 rfl)
          · refine j_aload_n (q := 89) hx (dc kX11_failing_0 46 rfl) rfl 1 rfl rfl ?_
            refine w_gR (q := 92) hx (dc kX11_failing_0 47 rfl) ff_X11_3 lk_X11_33 rfl (fun v24 => ?_)
            refine j_iload_n (q := 93) hx (dc kX11_failing_0 48 rfl) rfl 0 rfl rfl ?_
            refine j_aload_n (q := 94) hx (dc kX11_failing_0 49 rfl) rfl 1 rfl rfl ?_
            refine w_gR (q := 97) hx (dc kX11_failing_0 50 rfl) ff_X11_9 lk_X11_69 rfl (fun v25 => ?_)
            refine w_cVIR (q := 100) (As := [.int v10, vR x.2.2.2 v25]) (st := []) hx (dc kX11_failing_0 51 rfl) cf1 (by decide) rfl (cI _ my_X1_barred lm_X11_452 (by decide)) vs_X1_barred rfl (fun u hu => sX1_barred _ _ _ _ _ _ _ hu) (fun e => ite_ne (by unfold mX1_barred at e; exact e)) (Nat.zero_le _) rfl (fun v26 => ?_)
            refine j_if_eq (q := 103) (tgt := 105) hx (dc kX11_failing_0 52 rfl) (by decide) Iff.rfl rfl ?_ ?_
            · refine j_aload_n (q := 106) hx (dc kX11_failing_0 55 rfl) rfl 1 rfl rfl ?_
              refine j_iload_n (q := 107) hx (dc kX11_failing_0 56 rfl) rfl 2 rfl rfl ?_
              refine w_cVIW (q := 110) (As := [.int x1]) (st := []) hx (dc kX11_failing_0 57 rfl) cf11 (by decide) rfl (cI _ my_X11_age lm_X11_186 (by decide)) vs_X11_age rfl (fun u hu => sX11_age _ _ _ _ _ _ hu) (fun e => ite_ne (by unfold mX11_age at e; exact e)) (Nat.zero_le _) rfl (fun v28 h29 => ?_)
              refine j_aload_n (q := 111) hx (dc kX11_failing_0 58 rfl) rfl 1 rfl rfl ?_
              refine w_gR (q := 114) hx (dc kX11_failing_0 59 rfl) ff_X11_3 lk_X11_33 rfl (fun v30 => ?_)
              refine w_gI (q := 117) hx (dc kX11_failing_0 60 rfl) ff_X1_5 lk_X11_416 rfl (fun v31 => ?_)
              refine j_icmp_leS (q := 120) (tgt := 125) hx (dc kX11_failing_0 61 rfl) (by decide) rfl ?_ ?_
              · refine j_iconst (q := 126) (v := (0 : Int32)) hx (dc kX11_failing_1 0 rfl) (by decide) rfl ?_
                exact r_iW hx hR (dc kX11_failing_1 1 rfl)
              · refine j_bipush (q := 122) (v := (6 : Int32)) hx (dc kX11_failing_0 62 rfl) (by decide) rfl ?_
                refine j_goto (q := 126) hx (dc kX11_failing_0 63 rfl) (by decide) ?_
                exact r_iW hx hR (dc kX11_failing_1 1 rfl)
            · refine j_iconst (q := 104) (v := (5 : Int32)) hx (dc kX11_failing_0 53 rfl) (by decide) rfl ?_
              exact r_iW hx hR (dc kX11_failing_0 54 rfl)
        · refine j_iconst (q := 72) (v := (4 : Int32)) hx (dc kX11_failing_0 37 rfl) (by decide) rfl ?_
          exact r_iW hx hR (dc kX11_failing_0 38 rfl)
      · refine j_iconst (q := 55) (v := (3 : Int32)) hx (dc kX11_failing_0 28 rfl) (by decide) rfl ?_
        exact r_iW hx hR (dc kX11_failing_0 29 rfl)
    · refine j_iconst (q := 32) (v := (2 : Int32)) hx (dc kX11_failing_0 15 rfl) (by decide) rfl ?_
      exact r_iW hx hR (dc kX11_failing_0 16 rfl)
  · refine j_iconst (q := 15) (v := (1 : Int32)) hx (dc kX11_failing_0 6 rfl) (by decide) rfl ?_
    exact r_iW hx hR (dc kX11_failing_0 7 rfl)

set_option maxHeartbeats 4000000 in
set_option maxRecDepth 100000 in
theorem sX11_of (l : Launch) (w : Wd) (x0 : Nat) (x1 : Int32) (x2 : Int32) (h : Hp) (u : (Int32 × Hp)) (hK : mX11_of x0 x1 x2 h = some u) : M1 l w mi_X11_of 6 [vR w x0, .int x1, .int x2] h u.2 (some (.int u.1)) := by
  refine M1.of (own := RX11) (T := fun _ r => r = u) hK (by decide +kernel) rfl (by first | (simp only [lg_lenR, lg_lenI, lg_lenL, lg_len0]; decide) | decide) (fun x hx hnl hhf hl hw hret hnm hQ h0e => ⟨?_, rfl⟩)
  subst hw
  subst hl
  have hR : Rt x h u.2 (some (.int u.1)) ((some .int)) := ⟨h0e, hhf, hret, hQ⟩
  have hn : ∀ i, i < 3 → i < x.2.2.1.1.1 := fun i hi => by rw [hnl]; exact hi
  have e0 : lv_args 0 [vR x.2.2.2 x0, .int x1, .int x2] = [(0, vR x.2.2.2 x0), (1, .int x1), (2, .int x2)] := by simp only [lv_argsR, lv_argsI, lv_argsL, lv_args0]
  rw [e0]
  unfold mX11_of
  refine J.ckd fun hck => ?_
  refine j_aload_n (q := 1) hx (dc kX11_of_0 0 rfl) rfl 0 rfl rfl ?_
  refine j_iload_n (q := 2) hx (dc kX11_of_0 1 rfl) rfl 1 rfl rfl ?_
  refine w_cVIR (q := 5) (As := [.int x1]) (st := []) hx (dc kX11_of_0 2 rfl) cf11 (by decide) rfl (cI _ my_X11_isCount lm_X11_174 (by decide)) vs_X11_isCount rfl (fun u hu => sX11_isCount _ _ _ _ _ _ hu) (fun e => ite_ne (by unfold mX11_isCount at e; exact e)) (Nat.zero_le _) rfl (fun v1 => ?_)
  refine j_if_neS (q := 8) (tgt := 10) hx (dc kX11_of_0 3 rfl) (by decide) rfl ?_ ?_
  · refine j_iload_n (q := 11) hx (dc kX11_of_0 6 rfl) rfl 2 rfl rfl ?_
    refine j_tsw (td := 207) hx (dc kX11_of_0 7 rfl) (by decide) (by decide) ?_ ?_
    · refine j_iconst (q := 208) (v := (-1 : Int32)) hx (dc kX11_of_1 17 rfl) (by decide) rfl ?_
      exact r_iW hx hR (dc kX11_of_1 18 rfl)
    · refine ⟨⟨68, by decide, ?_⟩, ⟨80, by decide, ?_⟩, ⟨92, by decide, ?_⟩, ⟨104, by decide, ?_⟩, ⟨122, by decide, ?_⟩, ⟨128, by decide, ?_⟩, ⟨144, by decide, ?_⟩, ⟨157, by decide, ?_⟩, ⟨169, by decide, ?_⟩, ⟨181, by decide, ?_⟩, ⟨191, by decide, ?_⟩, trivial⟩
      · refine j_aload_n (q := 69) hx (dc kX11_of_0 8 rfl) rfl 0 rfl rfl ?_
        refine w_gR (q := 72) hx (dc kX11_of_0 9 rfl) ff_X11_5 lk_X11_43 rfl (fun v3 => ?_)
        refine w_gR (q := 75) hx (dc kX11_of_0 10 rfl) ff_X5_10 lk_X11_177 rfl (fun v4 => ?_)
        refine j_iload_n (q := 76) hx (dc kX11_of_0 11 rfl) rfl 1 rfl rfl ?_
        refine w_cSIR (q := 79) (As := [vR x.2.2.2 v4, .int x1]) (st := []) hx (dc kX11_of_0 12 rfl) (cI _ my_X11_at lm_X11_152 (by decide)) st_X11_at rfl (fun u hu => sX11_at _ _ _ _ _ _ hu) (Nat.zero_le _) rfl (fun v5 => ?_)
        exact r_iW hx hR (dc kX11_of_0 13 rfl)
      · refine j_aload_n (q := 81) hx (dc kX11_of_0 14 rfl) rfl 0 rfl rfl ?_
        refine w_gR (q := 84) hx (dc kX11_of_0 15 rfl) ff_X11_5 lk_X11_43 rfl (fun v7 => ?_)
        refine w_gR (q := 87) hx (dc kX11_of_0 16 rfl) ff_X5_11 lk_X11_180 rfl (fun v8 => ?_)
        refine j_iload_n (q := 88) hx (dc kX11_of_0 17 rfl) rfl 1 rfl rfl ?_
        refine w_cSIR (q := 91) (As := [vR x.2.2.2 v8, .int x1]) (st := []) hx (dc kX11_of_0 18 rfl) (cI _ my_X11_at lm_X11_152 (by decide)) st_X11_at rfl (fun u hu => sX11_at _ _ _ _ _ _ hu) (Nat.zero_le _) rfl (fun v9 => ?_)
        exact r_iW hx hR (dc kX11_of_0 19 rfl)
      · refine j_aload_n (q := 93) hx (dc kX11_of_0 20 rfl) rfl 0 rfl rfl ?_
        refine w_gR (q := 96) hx (dc kX11_of_0 21 rfl) ff_X11_5 lk_X11_43 rfl (fun v11 => ?_)
        refine w_gR (q := 99) hx (dc kX11_of_0 22 rfl) ff_X5_12 lk_X11_183 rfl (fun v12 => ?_)
        refine j_iload_n (q := 100) hx (dc kX11_of_0 23 rfl) rfl 1 rfl rfl ?_
        refine w_cSIR (q := 103) (As := [vR x.2.2.2 v12, .int x1]) (st := []) hx (dc kX11_of_0 24 rfl) (cI _ my_X11_at lm_X11_152 (by decide)) st_X11_at rfl (fun u hu => sX11_at _ _ _ _ _ _ hu) (Nat.zero_le _) rfl (fun v13 => ?_)
        exact r_iW hx hR (dc kX11_of_0 25 rfl)
      · refine j_aload_n (q := 105) hx (dc kX11_of_0 26 rfl) rfl 0 rfl rfl ?_
        refine j_iload_n (q := 106) hx (dc kX11_of_0 27 rfl) rfl 1 rfl rfl ?_
        refine w_cVIW (q := 109) (As := [.int x1]) (st := []) hx (dc kX11_of_0 28 rfl) cf11 (by decide) rfl (cI _ my_X11_age lm_X11_186 (by decide)) vs_X11_age rfl (fun u hu => sX11_age _ _ _ _ _ _ hu) (fun e => ite_ne (by unfold mX11_age at e; exact e)) (Nat.zero_le _) rfl (fun v15 h16 => ?_)
        refine j_aload_n (q := 110) hx (dc kX11_of_0 29 rfl) rfl 0 rfl rfl ?_
        refine w_gR (q := 113) hx (dc kX11_of_0 30 rfl) ff_X11_5 lk_X11_43 rfl (fun v17 => ?_)
        refine w_gR (q := 116) hx (dc kX11_of_0 31 rfl) ff_X5_11 lk_X11_180 rfl (fun v18 => ?_)
        refine j_iload_n (q := 117) hx (dc kX11_of_0 32 rfl) rfl 1 rfl rfl ?_
        refine w_cSIR (q := 120) (As := [vR x.2.2.2 v18, .int x1]) (st := [.int v15]) hx (dc kX11_of_0 33 rfl) (cI _ my_X11_at lm_X11_152 (by decide)) st_X11_at rfl (fun u hu => sX11_at _ _ _ _ _ _ hu) (sum_le (sum_I sum_nil) (by decide)) rfl (fun v19 => ?_)
        refine j_isub (q := 121) hx (dc kX11_of_0 34 rfl) rfl ?_
        exact r_iW hx hR (dc kX11_of_0 35 rfl)
      · refine j_aload_n (q := 123) hx (dc kX11_of_0 36 rfl) rfl 0 rfl rfl ?_
        refine j_iload_n (q := 124) hx (dc kX11_of_0 37 rfl) rfl 1 rfl rfl ?_
        refine w_cVIW (q := 127) (As := [.int x1]) (st := []) hx (dc kX11_of_0 38 rfl) cf11 (by decide) rfl (cI _ my_X11_age lm_X11_186 (by decide)) vs_X11_age rfl (fun u hu => sX11_age _ _ _ _ _ _ hu) (fun e => ite_ne (by unfold mX11_age at e; exact e)) (Nat.zero_le _) rfl (fun v21 h22 => ?_)
        exact r_iW hx hR (dc kX11_of_0 39 rfl)
      · refine j_aload_n (q := 129) hx (dc kX11_of_0 40 rfl) rfl 0 rfl rfl ?_
        refine w_gR (q := 132) hx (dc kX11_of_0 41 rfl) ff_X11_3 lk_X11_33 rfl (fun v23 => ?_)
        refine w_gR (q := 135) hx (dc kX11_of_0 42 rfl) ff_X1_8 lk_X11_189 rfl (fun v24 => ?_)
        refine j_aload_n (q := 136) hx (dc kX11_of_0 43 rfl) rfl 0 rfl rfl ?_
        refine j_iload_n (q := 137) hx (dc kX11_of_0 44 rfl) rfl 1 rfl rfl ?_
        refine w_cVIR (q := 140) (As := [.int x1]) (st := [vR x.2.2.2 v24]) hx (dc kX11_of_0 45 rfl) cf11 (by decide) rfl (cI _ my_X11_kind lm_X11_192 (by decide)) vs_X11_kind rfl (fun u hu => sX11_kind _ _ _ _ _ _ hu) (fun e => ite_ne (by unfold mX11_kind at e; exact e)) (sum_le (sum_R sum_nil) (by decide)) rfl (fun v25 => ?_)
        refine w_cSIR (q := 143) (As := [vR x.2.2.2 v24, .int v25]) (st := []) hx (dc kX11_of_0 46 rfl) (cI _ my_X11_at lm_X11_152 (by decide)) st_X11_at rfl (fun u hu => sX11_at _ _ _ _ _ _ hu) (Nat.zero_le _) rfl (fun v27 => ?_)
        exact r_iW hx hR (dc kX11_of_0 47 rfl)
      · refine j_aload_n (q := 145) hx (dc kX11_of_0 48 rfl) rfl 0 rfl rfl ?_
        refine w_gR (q := 148) hx (dc kX11_of_0 49 rfl) ff_X11_3 lk_X11_33 rfl (fun v29 => ?_)
        refine j_aload_n (q := 149) hx (dc kX11_of_0 50 rfl) rfl 0 rfl rfl ?_
        refine j_iload_n (q := 150) hx (dc kX11_of_0 51 rfl) rfl 1 rfl rfl ?_
        refine w_cVIR (q := 153) (As := [.int x1]) (st := [vR x.2.2.2 v29]) hx (dc kX11_of_0 52 rfl) cf11 (by decide) rfl (cI _ my_X11_kind lm_X11_192 (by decide)) vs_X11_kind rfl (fun u hu => sX11_kind _ _ _ _ _ _ hu) (fun e => ite_ne (by unfold mX11_kind at e; exact e)) (sum_le (sum_R sum_nil) (by decide)) rfl (fun v30 => ?_)
        refine w_cVIR (q := 156) (As := [.int v30]) (st := []) hx (dc kX11_of_0 53 rfl) cf1 (by decide) rfl (cI _ my_X1_pleasOf lm_X11_195 (by decide)) vs_X1_pleasOf rfl (fun u hu => sX1_pleasOf _ _ _ _ _ _ hu) (fun e => ite_ne (by unfold mX1_pleasOf at e; exact e)) (Nat.zero_le _) rfl (fun v32 => ?_)
        exact r_iW hx hR (dc kX11_of_0 54 rfl)
      · refine j_aload_n (q := 158) hx (dc kX11_of_0 55 rfl) rfl 0 rfl rfl ?_
        refine w_gR (q := 161) hx (dc kX11_of_0 56 rfl) ff_X11_5 lk_X11_43 rfl (fun v34 => ?_)
        refine w_gR (q := 164) hx (dc kX11_of_0 57 rfl) ff_X5_13 lk_X11_198 rfl (fun v35 => ?_)
        refine j_iload_n (q := 165) hx (dc kX11_of_0 58 rfl) rfl 1 rfl rfl ?_
        refine w_cSIR (q := 168) (As := [vR x.2.2.2 v35, .int x1]) (st := []) hx (dc kX11_of_0 59 rfl) (cI _ my_X11_at lm_X11_152 (by decide)) st_X11_at rfl (fun u hu => sX11_at _ _ _ _ _ _ hu) (Nat.zero_le _) rfl (fun v36 => ?_)
        exact r_iW hx hR (dc kX11_of_0 60 rfl)
      · refine j_aload_n (q := 170) hx (dc kX11_of_0 61 rfl) rfl 0 rfl rfl ?_
        refine w_gR (q := 173) hx (dc kX11_of_0 62 rfl) ff_X11_5 lk_X11_43 rfl (fun v38 => ?_)
        refine w_gR (q := 176) hx (dc kX11_of_0 63 rfl) ff_X5_14 lk_X11_201 rfl (fun v39 => ?_)
        refine j_iload_n (q := 177) hx (dc kX11_of_1 0 rfl) rfl 1 rfl rfl ?_
        refine w_cSIR (q := 180) (As := [vR x.2.2.2 v39, .int x1]) (st := []) hx (dc kX11_of_1 1 rfl) (cI _ my_X11_at lm_X11_152 (by decide)) st_X11_at rfl (fun u hu => sX11_at _ _ _ _ _ _ hu) (Nat.zero_le _) rfl (fun v40 => ?_)
        exact r_iW hx hR (dc kX11_of_1 2 rfl)
      · refine j_aload_n (q := 182) hx (dc kX11_of_1 3 rfl) rfl 0 rfl rfl ?_
        refine w_cVVW (q := 185) (As := []) (st := []) hx (dc kX11_of_1 4 rfl) cf11 (by decide) rfl (cI _ my_X11_remember lm_X11_204 (by decide)) vs_X11_remember rfl (fun u hu => sX11_remember _ _ _ _ _ hu) (fun e => ite_ne (by unfold mX11_remember at e; exact e)) (Nat.zero_le _) rfl (fun h43 => ?_)
        refine j_aload_n (q := 186) hx (dc kX11_of_1 5 rfl) rfl 0 rfl rfl ?_
        refine j_iload_n (q := 187) hx (dc kX11_of_1 6 rfl) rfl 1 rfl rfl ?_
        refine w_cVIW (q := 190) (As := [.int x1]) (st := []) hx (dc kX11_of_1 7 rfl) cf11 (by decide) rfl (cI _ my_X11_failing lm_X11_207 (by decide)) vs_X11_failing rfl (fun u hu => sX11_failing _ _ _ _ _ _ hu) (fun e => ite_ne (by unfold mX11_failing at e; exact e)) (Nat.zero_le _) rfl (fun v44 h45 => ?_)
        exact r_iW hx hR (dc kX11_of_1 8 rfl)
      · refine j_aload_n (q := 192) hx (dc kX11_of_1 9 rfl) rfl 0 rfl rfl ?_
        refine w_gR (q := 195) hx (dc kX11_of_1 10 rfl) ff_X11_3 lk_X11_33 rfl (fun v46 => ?_)
        refine w_gR (q := 198) hx (dc kX11_of_1 11 rfl) ff_X1_11 lk_X11_210 rfl (fun v47 => ?_)
        refine j_aload_n (q := 199) hx (dc kX11_of_1 12 rfl) rfl 0 rfl rfl ?_
        refine j_iload_n (q := 200) hx (dc kX11_of_1 13 rfl) rfl 1 rfl rfl ?_
        refine w_cVIR (q := 203) (As := [.int x1]) (st := [vR x.2.2.2 v47]) hx (dc kX11_of_1 14 rfl) cf11 (by decide) rfl (cI _ my_X11_kind lm_X11_192 (by decide)) vs_X11_kind rfl (fun u hu => sX11_kind _ _ _ _ _ _ hu) (fun e => ite_ne (by unfold mX11_kind at e; exact e)) (sum_le (sum_R sum_nil) (by decide)) rfl (fun v48 => ?_)
        refine w_cSIR (q := 206) (As := [vR x.2.2.2 v47, .int v48]) (st := []) hx (dc kX11_of_1 15 rfl) (cI _ my_X11_at lm_X11_152 (by decide)) st_X11_at rfl (fun u hu => sX11_at _ _ _ _ _ _ hu) (Nat.zero_le _) rfl (fun v50 => ?_)
        exact r_iW hx hR (dc kX11_of_1 16 rfl)
  · refine j_iconst (q := 9) (v := (-1 : Int32)) hx (dc kX11_of_0 4 rfl) (by decide) rfl ?_
    exact r_iW hx hR (dc kX11_of_0 5 rfl)

set_option maxHeartbeats 4000000 in
set_option maxRecDepth 100000 in
theorem sX11_shown (l : Launch) (w : Wd) (x0 : Nat) (x1 : Int32) (x2 : Int32) (x3 : Int32) (h : Hp) (u : (Int32 × Hp)) (hK : mX11_shown x0 x1 x2 x3 h = some u) : M1 l w mi_X11_shown 5 [vR w x0, .int x1, .int x2, .int x3] h u.2 (some (.int u.1)) := by
  refine M1.of (own := RX11) (T := fun _ r => r = u) hK (by decide +kernel) rfl (by first | (simp only [lg_lenR, lg_lenI, lg_lenL, lg_len0]; decide) | decide) (fun x hx hnl hhf hl hw hret hnm hQ h0e => ⟨?_, rfl⟩)
  subst hw
  subst hl
  have hR : Rt x h u.2 (some (.int u.1)) ((some .int)) := ⟨h0e, hhf, hret, hQ⟩
  have hn : ∀ i, i < 4 → i < x.2.2.1.1.1 := fun i hi => by rw [hnl]; exact hi
  have e0 : lv_args 0 [vR x.2.2.2 x0, .int x1, .int x2, .int x3] = [(0, vR x.2.2.2 x0), (1, .int x1), (2, .int x2), (3, .int x3)] := by simp only [lv_argsR, lv_argsI, lv_argsL, lv_args0]
  rw [e0]
  unfold mX11_shown
  refine J.ckd fun hck => ?_
  refine j_iload_n (q := 1) hx (dc kX11_shown_0 0 rfl) rfl 3 rfl rfl ?_
  refine j_tsw (td := 112) hx (dc kX11_shown_0 1 rfl) (by decide) (by decide) ?_ ?_
  · refine j_iconst (q := 113) (v := (-1 : Int32)) hx (dc kX11_shown_0 44 rfl) (by decide) rfl ?_
    exact r_iW hx hR (dc kX11_shown_0 45 rfl)
  · refine ⟨⟨28, by decide, ?_⟩, ⟨63, by decide, ?_⟩, ⟨92, by decide, ?_⟩, trivial⟩
    · refine j_aload_n (q := 29) hx (dc kX11_shown_0 2 rfl) rfl 0 rfl rfl ?_
      refine w_gR (q := 32) hx (dc kX11_shown_0 3 rfl) ff_X11_2 lk_X11_26 rfl (fun v1 => ?_)
      refine j_aload_n (q := 33) hx (dc kX11_shown_0 4 rfl) rfl 0 rfl rfl ?_
      refine w_gR (q := 36) hx (dc kX11_shown_0 5 rfl) ff_X11_3 lk_X11_33 rfl (fun v2 => ?_)
      refine j_iload_n (q := 37) hx (dc kX11_shown_0 6 rfl) rfl 2 rfl rfl ?_
      refine j_aload_n (q := 38) hx (dc kX11_shown_0 7 rfl) rfl 0 rfl rfl ?_
      refine w_gR (q := 41) hx (dc kX11_shown_0 8 rfl) ff_X11_5 lk_X11_43 rfl (fun v3 => ?_)
      refine w_gR (q := 44) hx (dc kX11_shown_0 9 rfl) ff_X5_13 lk_X11_198 rfl (fun v4 => ?_)
      refine j_iload_n (q := 45) hx (dc kX11_shown_0 10 rfl) rfl 1 rfl rfl ?_
      refine w_cSIR (q := 48) (As := [vR x.2.2.2 v4, .int x1]) (st := [.int x2, vR x.2.2.2 v2, vR x.2.2.2 v1]) hx (dc kX11_shown_0 11 rfl) (cI _ my_X11_at lm_X11_152 (by decide)) st_X11_at rfl (fun u hu => sX11_at _ _ _ _ _ _ hu) (sum_le (sum_I (sum_R (sum_R sum_nil))) (by decide)) rfl (fun v5 => ?_)
      refine j_aload_n (q := 49) hx (dc kX11_shown_0 12 rfl) rfl 0 rfl rfl ?_
      refine w_gR (q := 52) hx (dc kX11_shown_0 13 rfl) ff_X11_5 lk_X11_43 rfl (fun v7 => ?_)
      refine w_gR (q := 55) hx (dc kX11_shown_0 14 rfl) ff_X5_14 lk_X11_201 rfl (fun v8 => ?_)
      refine j_iload_n (q := 56) hx (dc kX11_shown_0 15 rfl) rfl 1 rfl rfl ?_
      refine w_cSIR (q := 59) (As := [vR x.2.2.2 v8, .int x1]) (st := [.int v5, .int x2, vR x.2.2.2 v2, vR x.2.2.2 v1]) hx (dc kX11_shown_0 16 rfl) (cI _ my_X11_at lm_X11_152 (by decide)) st_X11_at rfl (fun u hu => sX11_at _ _ _ _ _ _ hu) (sum_le (sum_I (sum_I (sum_R (sum_R sum_nil)))) (by decide)) rfl (fun v9 => ?_)
      refine w_cVIW (q := 62) (As := [vR x.2.2.2 v2, .int x2, .int v5, .int v9]) (st := []) hx (dc kX11_shown_0 17 rfl) cf4 (by decide) rfl (cI _ my_X4_glance lm_X11_428 (by decide)) vs_X4_glance rfl (fun u hu => sX4_glance _ _ _ _ _ _ _ _ _ hu) (fun e => ite_ne (by unfold mX4_glance at e; exact e)) (Nat.zero_le _) rfl (fun v11 h12 => ?_)
      exact r_iW hx hR (dc kX11_shown_0 18 rfl)
    · refine j_aload_n (q := 64) hx (dc kX11_shown_0 19 rfl) rfl 0 rfl rfl ?_
      refine j_iload_n (q := 65) hx (dc kX11_shown_0 20 rfl) rfl 1 rfl rfl ?_
      refine w_cVVW (q := 68) (As := [.int x1]) (st := []) hx (dc kX11_shown_0 21 rfl) cf11 (by decide) rfl (cI _ my_X11_allege lm_X11_292 (by decide)) vs_X11_allege rfl (fun u hu => sX11_allege _ _ _ _ _ _ hu) (fun e => ite_ne (by unfold mX11_allege at e; exact e)) (Nat.zero_le _) rfl (fun h14 => ?_)
      refine j_aload_n (q := 69) hx (dc kX11_shown_0 22 rfl) rfl 0 rfl rfl ?_
      refine w_gR (q := 72) hx (dc kX11_shown_0 23 rfl) ff_X11_10 lk_X11_73 rfl (fun v15 => ?_)
      refine j_aload_n (q := 73) hx (dc kX11_shown_0 24 rfl) rfl 0 rfl rfl ?_
      refine w_gR (q := 76) hx (dc kX11_shown_0 25 rfl) ff_X11_3 lk_X11_33 rfl (fun v16 => ?_)
      refine j_iload_n (q := 77) hx (dc kX11_shown_0 26 rfl) rfl 2 rfl rfl ?_
      refine w_cVRR (q := 80) (As := [.int x2]) (st := [vR x.2.2.2 v15]) hx (dc kX11_shown_0 27 rfl) cf1 (by decide) rfl (cI _ my_X1_table lm_X11_432 (by decide)) vs_X1_table rfl (fun u hu => sX1_table _ _ _ _ _ _ hu) (fun e => ite_ne (by unfold mX1_table at e; exact e)) (sum_le (sum_R sum_nil) (by decide)) rfl (fun v17 => ?_)
      refine w_cVIR (q := 83) (As := [vR x.2.2.2 v17]) (st := []) hx (dc kX11_shown_0 28 rfl) cf10 (by decide) rfl (cI _ my_X10_within lm_X11_312 (by decide)) vs_X10_within rfl (fun u hu => sX10_within _ _ _ _ _ _ hu) (fun e => ite_ne (by unfold mX10_within at e; exact e)) (Nat.zero_le _) rfl (fun v19 => ?_)
      refine j_if_eq (q := 86) (tgt := 90) hx (dc kX11_shown_0 29 rfl) (by decide) Iff.rfl rfl ?_ ?_
      · refine j_iconst (q := 91) (v := (0 : Int32)) hx (dc kX11_shown_0 32 rfl) (by decide) rfl ?_
        exact r_iW hx hR (dc kX11_shown_0 33 rfl)
      · refine j_iconst (q := 87) (v := (1 : Int32)) hx (dc kX11_shown_0 30 rfl) (by decide) rfl ?_
        refine j_goto (q := 91) hx (dc kX11_shown_0 31 rfl) (by decide) ?_
        exact r_iW hx hR (dc kX11_shown_0 33 rfl)
    · refine j_aload_n (q := 93) hx (dc kX11_shown_0 34 rfl) rfl 0 rfl rfl ?_
      refine w_cVVW (q := 96) (As := []) (st := []) hx (dc kX11_shown_0 35 rfl) cf11 (by decide) rfl (cI _ my_X11_remember lm_X11_204 (by decide)) vs_X11_remember rfl (fun u hu => sX11_remember _ _ _ _ _ hu) (fun e => ite_ne (by unfold mX11_remember at e; exact e)) (Nat.zero_le _) rfl (fun h22 => ?_)
      refine j_aload_n (q := 97) hx (dc kX11_shown_0 36 rfl) rfl 0 rfl rfl ?_
      refine w_gR (q := 100) hx (dc kX11_shown_0 37 rfl) ff_X11_9 lk_X11_69 rfl (fun v23 => ?_)
      refine j_aload_n (q := 101) hx (dc kX11_shown_0 38 rfl) rfl 0 rfl rfl ?_
      refine w_gR (q := 104) hx (dc kX11_shown_0 39 rfl) ff_X11_3 lk_X11_33 rfl (fun v24 => ?_)
      refine j_iload_n (q := 105) hx (dc kX11_shown_0 40 rfl) rfl 2 rfl rfl ?_
      refine w_cVRR (q := 108) (As := [.int x2]) (st := [vR x.2.2.2 v23]) hx (dc kX11_shown_0 41 rfl) cf1 (by decide) rfl (cI _ my_X1_table lm_X11_432 (by decide)) vs_X1_table rfl (fun u hu => sX1_table _ _ _ _ _ _ hu) (fun e => ite_ne (by unfold mX1_table at e; exact e)) (sum_le (sum_R sum_nil) (by decide)) rfl (fun v25 => ?_)
      refine w_cVIR (q := 111) (As := [vR x.2.2.2 v25]) (st := []) hx (dc kX11_shown_0 42 rfl) cf10 (by decide) rfl (cI _ my_X10_howIn lm_X11_332 (by decide)) vs_X10_howIn rfl (fun u hu => sX10_howIn _ _ _ _ _ _ hu) (fun e => ite_ne (by unfold mX10_howIn at e; exact e)) (Nat.zero_le _) rfl (fun v27 => ?_)
      exact r_iW hx hR (dc kX11_shown_0 43 rfl)

set_option maxHeartbeats 4000000 in
set_option maxRecDepth 100000 in
theorem sX11_element (l : Launch) (w : Wd) (x0 : Nat) (x1 : Int32) (x2 : Int32) (x3 : Int32) (h : Hp) (u : (Int32 × Hp)) (hK : mX11_element x0 x1 x2 x3 h = some u) : M1 l w mi_X11_element 6 [vR w x0, .int x1, .int x2, .int x3] h u.2 (some (.int u.1)) := by
  refine M1.of (own := RX11) (T := fun _ r => r = u) hK (by decide +kernel) rfl (by first | (simp only [lg_lenR, lg_lenI, lg_lenL, lg_len0]; decide) | decide) (fun x hx hnl hhf hl hw hret hnm hQ h0e => ⟨?_, rfl⟩)
  subst hw
  subst hl
  have hR : Rt x h u.2 (some (.int u.1)) ((some .int)) := ⟨h0e, hhf, hret, hQ⟩
  have hn : ∀ i, i < 4 → i < x.2.2.1.1.1 := fun i hi => by rw [hnl]; exact hi
  have e0 : lv_args 0 [vR x.2.2.2 x0, .int x1, .int x2, .int x3] = [(0, vR x.2.2.2 x0), (1, .int x1), (2, .int x2), (3, .int x3)] := by simp only [lv_argsR, lv_argsI, lv_argsL, lv_args0]
  rw [e0]
  unfold mX11_element
  refine J.ckd fun hck => ?_
  refine j_aload_n (q := 1) hx (dc kX11_element_0 0 rfl) rfl 0 rfl rfl ?_
  refine j_iload_n (q := 2) hx (dc kX11_element_0 1 rfl) rfl 1 rfl rfl ?_
  refine w_cVIR (q := 5) (As := [.int x1]) (st := []) hx (dc kX11_element_0 2 rfl) cf11 (by decide) rfl (cI _ my_X11_isCount lm_X11_174 (by decide)) vs_X11_isCount rfl (fun u hu => sX11_isCount _ _ _ _ _ _ hu) (fun e => ite_ne (by unfold mX11_isCount at e; exact e)) (Nat.zero_le _) rfl (fun v1 => ?_)
  refine j_if_eq (q := 8) (tgt := 31) hx (dc kX11_element_0 3 rfl) (by decide) Iff.rfl rfl ?_ ?_
  · refine j_iconst (q := 32) (v := (-1 : Int32)) hx (dc kX11_element_0 15 rfl) (by decide) rfl ?_
    exact r_iW hx hR (dc kX11_element_0 16 rfl)
  · refine j_iload_n (q := 9) hx (dc kX11_element_0 4 rfl) rfl 2 rfl rfl ?_
    refine j_if_lt (q := 12) (tgt := 31) hx (dc kX11_element_0 5 rfl) (by decide) Iff.rfl rfl ?_ ?_
    · refine j_iconst (q := 32) (v := (-1 : Int32)) hx (dc kX11_element_0 15 rfl) (by decide) rfl ?_
      exact r_iW hx hR (dc kX11_element_0 16 rfl)
    · refine j_iload_n (q := 13) hx (dc kX11_element_0 6 rfl) rfl 2 rfl rfl ?_
      refine j_aload_n (q := 14) hx (dc kX11_element_0 7 rfl) rfl 0 rfl rfl ?_
      refine w_gR (q := 17) hx (dc kX11_element_0 8 rfl) ff_X11_3 lk_X11_33 rfl (fun v3 => ?_)
      refine w_gR (q := 20) hx (dc kX11_element_0 9 rfl) ff_X1_8 lk_X11_189 rfl (fun v4 => ?_)
      refine j_aload_n (q := 21) hx (dc kX11_element_0 10 rfl) rfl 0 rfl rfl ?_
      refine j_iload_n (q := 22) hx (dc kX11_element_0 11 rfl) rfl 1 rfl rfl ?_
      refine w_cVIR (q := 25) (As := [.int x1]) (st := [vR x.2.2.2 v4, .int x2]) hx (dc kX11_element_0 12 rfl) cf11 (by decide) rfl (cI _ my_X11_kind lm_X11_192 (by decide)) vs_X11_kind rfl (fun u hu => sX11_kind _ _ _ _ _ _ hu) (fun e => ite_ne (by unfold mX11_kind at e; exact e)) (sum_le (sum_R (sum_I sum_nil)) (by decide)) rfl (fun v5 => ?_)
      refine w_cSIR (q := 28) (As := [vR x.2.2.2 v4, .int v5]) (st := [.int x2]) hx (dc kX11_element_0 13 rfl) (cI _ my_X11_at lm_X11_152 (by decide)) st_X11_at rfl (fun u hu => sX11_at _ _ _ _ _ _ hu) (sum_le (sum_I sum_nil) (by decide)) rfl (fun v7 => ?_)
      refine j_icmp_lt (q := 31) (tgt := 33) hx (dc kX11_element_0 14 rfl) (by decide) Iff.rfl rfl ?_ ?_
      · refine j_aload_n (q := 34) hx (dc kX11_element_0 17 rfl) rfl 0 rfl rfl ?_
        refine j_iload_n (q := 35) hx (dc kX11_element_0 18 rfl) rfl 1 rfl rfl ?_
        refine j_aload_n (q := 36) hx (dc kX11_element_0 19 rfl) rfl 0 rfl rfl ?_
        refine j_iload_n (q := 37) hx (dc kX11_element_0 20 rfl) rfl 1 rfl rfl ?_
        refine w_cVIR (q := 40) (As := [.int x1]) (st := [.int x1, vR x.2.2.2 x0]) hx (dc kX11_element_0 21 rfl) cf11 (by decide) rfl (cI _ my_X11_kind lm_X11_192 (by decide)) vs_X11_kind rfl (fun u hu => sX11_kind _ _ _ _ _ _ hu) (fun e => ite_ne (by unfold mX11_kind at e; exact e)) (sum_le (sum_I (sum_R sum_nil)) (by decide)) rfl (fun v9 => ?_)
        refine j_iload_n (q := 41) hx (dc kX11_element_0 22 rfl) rfl 2 rfl rfl ?_
        refine w_cSIR (q := 44) (As := [.int v9, .int x2]) (st := [.int x1, vR x.2.2.2 x0]) hx (dc kX11_element_0 23 rfl) (cI _ my_X11_needSlot lm_X11_213 (by decide)) st_X11_needSlot rfl (fun u hu => sX11_needSlot _ _ _ _ _ _ hu) (sum_le (sum_I (sum_R sum_nil)) (by decide)) rfl (fun v11 => ?_)
        refine j_iload_n (q := 45) hx (dc kX11_element_0 24 rfl) rfl 3 rfl rfl ?_
        refine w_cVIW (q := 48) (As := [.int x1, .int v11, .int x3]) (st := []) hx (dc kX11_element_0 25 rfl) cf11 (by decide) rfl (cI _ my_X11_shown lm_X11_217 (by decide)) vs_X11_shown rfl (fun u hu => sX11_shown _ _ _ _ _ _ _ _ hu) (fun e => ite_ne (by unfold mX11_shown at e; exact e)) (Nat.zero_le _) rfl (fun v13 h14 => ?_)
        exact r_iW hx hR (dc kX11_element_0 26 rfl)
      · refine j_iconst (q := 32) (v := (-1 : Int32)) hx (dc kX11_element_0 15 rfl) (by decide) rfl ?_
        exact r_iW hx hR (dc kX11_element_0 16 rfl)

set_option maxHeartbeats 4000000 in
set_option maxRecDepth 100000 in
theorem sX11_leaves (l : Launch) (w : Wd) (x0 : Nat) (x1 : Int32) (x2 : Int32) (h : Hp) (u : (Int32 × Hp)) (hK : mX11_leaves x0 x1 x2 h = some u) : M1 l w mi_X11_leaves 4 [vR w x0, .int x1, .int x2] h u.2 (some (.int u.1)) := by
  refine M1.of (own := RX11) (T := fun _ r => r = u) hK (by decide +kernel) rfl (by first | (simp only [lg_lenR, lg_lenI, lg_lenL, lg_len0]; decide) | decide) (fun x hx hnl hhf hl hw hret hnm hQ h0e => ⟨?_, rfl⟩)
  subst hw
  subst hl
  have hR : Rt x h u.2 (some (.int u.1)) ((some .boolean)) := ⟨h0e, hhf, hret, hQ⟩
  have hn : ∀ i, i < 3 → i < x.2.2.1.1.1 := fun i hi => by rw [hnl]; exact hi
  have e0 : lv_args 0 [vR x.2.2.2 x0, .int x1, .int x2] = [(0, vR x.2.2.2 x0), (1, .int x1), (2, .int x2)] := by simp only [lv_argsR, lv_argsI, lv_argsL, lv_args0]
  rw [e0]
  have hb22 : ∀ (x0 : Nat) (t0 : Nat) (t1 : Int32) (t2 : Int32) (h : Hp), J x 22 [(0, vR x.2.2.2 x0)] [.int t2, .int t1, vR x.2.2.2 t0] h (mX11_leaves_b22 x0 t0 t1 t2 h) (fun r => r = u) := by
    intro x0 t0 t1 t2 h
    unfold mX11_leaves_b22
    refine w_cVVW (q := 25) (As := [.int t1, .int t2]) (st := []) hx (dc kX11_leaves_0 14 rfl) cf10 (by decide) rfl (cI _ my_X10_agree lm_X11_296 (by decide)) vs_X10_agree rfl (fun u hu => sX10_agree _ _ _ _ _ _ _ hu) (fun e => ite_ne (by unfold mX10_agree at e; exact e)) (Nat.zero_le _) rfl (fun h5 => ?_)
    refine j_aload_n (q := 26) hx (dc kX11_leaves_0 15 rfl) rfl 0 rfl rfl ?_
    refine w_gR (q := 29) hx (dc kX11_leaves_0 16 rfl) ff_X11_9 lk_X11_69 rfl (fun v6 => ?_)
    refine w_cVIR (q := 32) (As := []) (st := []) hx (dc kX11_leaves_0 17 rfl) cf10 (by decide) rfl (cI _ my_X10_isEmpty lm_X11_300 (by decide)) vs_X10_isEmpty rfl (fun u hu => sX10_isEmpty _ _ _ _ _ hu) (fun e => ite_ne (by unfold mX10_isEmpty at e; exact e)) (Nat.zero_le _) rfl (fun v7 => ?_)
    refine j_if_neS (q := 35) (tgt := 39) hx (dc kX11_leaves_0 18 rfl) (by decide) rfl ?_ ?_
    · refine j_iconst (q := 40) (v := (0 : Int32)) hx (dc kX11_leaves_0 21 rfl) (by decide) rfl ?_
      exact r_cW hx (Or.inl rfl) hR (dc kX11_leaves_0 22 rfl)
    · refine j_iconst (q := 36) (v := (1 : Int32)) hx (dc kX11_leaves_0 19 rfl) (by decide) rfl ?_
      refine j_goto (q := 40) hx (dc kX11_leaves_0 20 rfl) (by decide) ?_
      exact r_cW hx (Or.inr rfl) hR (dc kX11_leaves_0 22 rfl)
  unfold mX11_leaves
  refine J.ckd fun hck => ?_
  refine j_aload_n (q := 1) hx (dc kX11_leaves_0 0 rfl) rfl 0 rfl rfl ?_
  refine w_cVVW (q := 4) (As := []) (st := []) hx (dc kX11_leaves_0 1 rfl) cf11 (by decide) rfl (cI _ my_X11_remember lm_X11_204 (by decide)) vs_X11_remember rfl (fun u hu => sX11_remember _ _ _ _ _ hu) (fun e => ite_ne (by unfold mX11_remember at e; exact e)) (Nat.zero_le _) rfl (fun h2 => ?_)
  refine j_aload_n (q := 5) hx (dc kX11_leaves_0 2 rfl) rfl 0 rfl rfl ?_
  refine w_gR (q := 8) hx (dc kX11_leaves_0 3 rfl) ff_X11_9 lk_X11_69 rfl (fun v3 => ?_)
  refine j_iconst (q := 9) (v := (1 : Int32)) hx (dc kX11_leaves_0 4 rfl) (by decide) rfl ?_
  refine j_iload_n (q := 10) hx (dc kX11_leaves_0 5 rfl) rfl 1 rfl rfl ?_
  refine j_ishl (q := 11) hx (dc kX11_leaves_0 6 rfl) rfl ?_
  refine j_iload_n (q := 12) hx (dc kX11_leaves_0 7 rfl) rfl 2 rfl rfl ?_
  refine j_if_eq (q := 15) (tgt := 21) hx (dc kX11_leaves_0 8 rfl) (by decide) Iff.rfl rfl ?_ ?_
  · refine j_iconst (q := 22) (v := (0 : Int32)) hx (dc kX11_leaves_0 13 rfl) (by decide) rfl ?_
    exact j_sub [0] rfl (hb22 x0 v3 ((1 : Int32) <<< (x1 &&& 31)) (0 : Int32) h2)
  · refine j_iconst (q := 16) (v := (1 : Int32)) hx (dc kX11_leaves_0 9 rfl) (by decide) rfl ?_
    refine j_iload_n (q := 17) hx (dc kX11_leaves_0 10 rfl) rfl 1 rfl rfl ?_
    refine j_ishl (q := 18) hx (dc kX11_leaves_0 11 rfl) rfl ?_
    refine j_goto (q := 22) hx (dc kX11_leaves_0 12 rfl) (by decide) ?_
    exact j_sub [0] rfl (hb22 x0 v3 ((1 : Int32) <<< (x1 &&& 31)) ((1 : Int32) <<< (x1 &&& 31)) h2)

set_option maxHeartbeats 4000000 in
set_option maxRecDepth 100000 in
theorem sX11_answer (l : Launch) (w : Wd) (x0 : Nat) (x1 : Int32) (x2 : Int32) (h : Hp) (u : (Int32 × Hp)) (hK : mX11_answer x0 x1 x2 h = some u) : M1 l w mi_X11_answer 5 [vR w x0, .int x1, .int x2] h u.2 (some (.int u.1)) := by
  refine M1.of (own := RX11) (T := fun _ r => r = u) hK (by decide +kernel) rfl (by first | (simp only [lg_lenR, lg_lenI, lg_lenL, lg_len0]; decide) | decide) (fun x hx hnl hhf hl hw hret hnm hQ h0e => ⟨?_, rfl⟩)
  subst hw
  subst hl
  have hR : Rt x h u.2 (some (.int u.1)) ((some .int)) := ⟨h0e, hhf, hret, hQ⟩
  have hn : ∀ i, i < 5 → i < x.2.2.1.1.1 := fun i hi => by rw [hnl]; exact hi
  have e0 : lv_args 0 [vR x.2.2.2 x0, .int x1, .int x2] = [(0, vR x.2.2.2 x0), (1, .int x1), (2, .int x2)] := by simp only [lv_argsR, lv_argsI, lv_argsL, lv_args0]
  rw [e0]
  have hb121 : ∀ (x0 : Nat) (t0 : Nat) (t1 : Int32) (t2 : Int32) (t3 : Int32) (h : Hp), J x 121 [(0, vR x.2.2.2 x0)] [.int t3, .int t2, .int t1, vR x.2.2.2 t0] h (mX11_answer_b121 x0 t0 t1 t2 t3 h) (fun r => r = u) := by
    intro x0 t0 t1 t2 t3 h
    unfold mX11_answer_b121
    refine w_cVVW (q := 124) (As := [.int t1, .int t2, .int t3]) (st := []) hx (dc kX11_answer_1 3 rfl) cf5 (by decide) rfl (cI _ my_X5_become lm_X11_236 (by decide)) vs_X5_become rfl (fun u hu => sX5_become _ _ _ _ _ _ _ _ hu) (fun e => ite_ne (by unfold mX5_become at e; exact e)) (Nat.zero_le _) rfl (fun h14 => ?_)
    refine j_aload_n (q := 125) hx (dc kX11_answer_1 4 rfl) rfl 0 rfl rfl ?_
    refine w_gR (q := 128) hx (dc kX11_answer_1 5 rfl) ff_X11_5 lk_X11_43 rfl (fun v15 => ?_)
    refine w_cVIR (q := 131) (As := []) (st := []) hx (dc kX11_answer_1 6 rfl) cf5 (by decide) rfl (cI _ my_X5_answered lm_X11_240 (by decide)) vs_X5_answered rfl (fun u hu => sX5_answered _ _ _ _ _ hu) (fun e => ite_ne (by unfold mX5_answered at e; exact e)) (Nat.zero_le _) rfl (fun v16 => ?_)
    exact r_iW hx hR (dc kX11_answer_1 7 rfl)
  have hb94 : ∀ (x0 : Nat) (x1 : Int32) (x2 : Int32) (x3 : Int32) (h : Hp), J x 94 [(0, vR x.2.2.2 x0), (1, .int x1), (2, .int x2), (3, .int x3)] [] h (mX11_answer_b94 x0 x1 x2 x3 h) (fun r => r = u) := by
    intro x0 x1 x2 x3 h
    unfold mX11_answer_b94
    refine j_aload_n (q := 95) hx (dc kX11_answer_0 52 rfl) rfl 0 rfl rfl ?_
    refine w_gR (q := 98) hx (dc kX11_answer_0 53 rfl) ff_X11_8 lk_X11_62 rfl (fun v8 => ?_)
    refine j_aload_n (q := 99) hx (dc kX11_answer_0 54 rfl) rfl 0 rfl rfl ?_
    refine w_gR (q := 102) hx (dc kX11_answer_0 55 rfl) ff_X11_5 lk_X11_43 rfl (fun v9 => ?_)
    refine w_cVVW (q := 105) (As := [vR x.2.2.2 v9]) (st := []) hx (dc kX11_answer_0 56 rfl) cf0 (by decide) rfl (cI _ my_X0_note lm_X11_232 (by decide)) vs_X0_note rfl (fun u hu => sX0_note _ _ _ _ _ _ hu) (fun e => ite_ne (by unfold mX0_note at e; exact e)) (Nat.zero_le _) rfl (fun h11 => ?_)
    refine j_aload_n (q := 106) hx (dc kX11_answer_0 57 rfl) rfl 0 rfl rfl ?_
    refine w_gR (q := 109) hx (dc kX11_answer_0 58 rfl) ff_X11_5 lk_X11_43 rfl (fun v12 => ?_)
    refine j_iload_n (q := 110) hx (dc kX11_answer_0 59 rfl) rfl 1 rfl rfl ?_
    refine j_iload_n (q := 111) hx (dc kX11_answer_0 60 rfl) rfl 3 rfl rfl ?_
    refine j_iload_n (q := 112) hx (dc kX11_answer_0 61 rfl) rfl 2 rfl rfl ?_
    refine j_iconst (q := 113) (v := (1 : Int32)) hx (dc kX11_answer_0 62 rfl) (by decide) rfl ?_
    refine j_icmp_neS (q := 116) (tgt := 120) hx (dc kX11_answer_0 63 rfl) (by decide) rfl ?_ ?_
    · refine j_iconst (q := 121) (v := (0 : Int32)) hx (dc kX11_answer_1 2 rfl) (by decide) rfl ?_
      exact j_sub [0] rfl (hb121 x0 v12 x1 x3 (0 : Int32) h11)
    · refine j_iconst (q := 117) (v := (1 : Int32)) hx (dc kX11_answer_1 0 rfl) (by decide) rfl ?_
      refine j_goto (q := 121) hx (dc kX11_answer_1 1 rfl) (by decide) ?_
      exact j_sub [0] rfl (hb121 x0 v12 x1 x3 (1 : Int32) h11)
  have hb85 : ∀ (x0 : Nat) (x1 : Int32) (x2 : Int32) (x3 : Int32) (t0 : Nat) (t1 : Int32) (t2 : Int32) (h : Hp), J x 85 [(0, vR x.2.2.2 x0), (1, .int x1), (2, .int x2), (3, .int x3)] [.int t2, .int t1, vR x.2.2.2 t0] h (mX11_answer_b85 x0 x1 x2 x3 t0 t1 t2 h) (fun r => r = u) := by
    intro x0 x1 x2 x3 t0 t1 t2 h
    unfold mX11_answer_b85
    refine w_cVIW (q := 88) (As := [.int t1, .int t2]) (st := []) hx (dc kX11_answer_0 48 rfl) cf11 (by decide) rfl (cI _ my_X11_leaves lm_X11_228 (by decide)) vs_X11_leaves rfl (fun u hu => sX11_leaves _ _ _ _ _ _ _ hu) (fun e => ite_ne (by unfold mX11_leaves at e; exact e)) (Nat.zero_le _) rfl (fun v18 h19 => ?_)
    refine j_if_neS (q := 91) (tgt := 94) hx (dc kX11_answer_0 49 rfl) (by decide) rfl ?_ ?_
    · exact hb94 x0 x1 x2 x3 h19
    · refine j_bipush (q := 93) (v := (-4 : Int32)) hx (dc kX11_answer_0 50 rfl) (by decide) rfl ?_
      exact r_iW hx hR (dc kX11_answer_0 51 rfl)
  have hb42 : ∀ (x0 : Nat) (x1 : Int32) (x2 : Int32) (t0 : Int32) (h : Hp), J x 42 [(0, vR x.2.2.2 x0), (1, .int x1), (2, .int x2)] [.int t0] h (mX11_answer_b42 x0 x1 x2 t0 h) (fun r => r = u) := by
    intro x0 x1 x2 t0 h
    unfold mX11_answer_b42
    refine j_istore_n (q := 43) (i := 3) (l2 := [(0, vR x.2.2.2 x0), (1, .int x1), (2, .int x2)]) hx (dc kX11_answer_0 23 rfl) rfl (hn 3 (by decide)) [0, 1, 2] rfl ⟨⟨show (0 : Nat) ≠ 3 by decide, Or.inl (show (0 : Nat) + 1 ≠ 3 by decide)⟩, ⟨⟨show (1 : Nat) ≠ 3 by decide, Or.inl (show (1 : Nat) + 1 ≠ 3 by decide)⟩, ⟨⟨show (2 : Nat) ≠ 3 by decide, Or.inr rfl⟩, trivial⟩⟩⟩ rfl ?_
    refine j_aload_n (q := 44) hx (dc kX11_answer_0 24 rfl) rfl 1 rfl rfl ?_
    refine w_gR (q := 47) hx (dc kX11_answer_0 25 rfl) ff_X11_5 lk_X11_43 rfl (fun v5 => ?_)
    refine j_iload_n (q := 48) hx (dc kX11_answer_0 26 rfl) rfl 2 rfl rfl ?_
    refine w_cVIR (q := 51) (As := [.int x1]) (st := []) hx (dc kX11_answer_0 27 rfl) cf5 (by decide) rfl (cI _ my_X5_howIs lm_X11_156 (by decide)) vs_X5_howIs rfl (fun u hu => sX5_howIs _ _ _ _ _ _ hu) (fun e => ite_ne (by unfold mX5_howIs at e; exact e)) (Nat.zero_le _) rfl (fun v6 => ?_)
    refine j_istore (q := 53) (i := 4) (l2 := [(3, .int t0), (0, vR x.2.2.2 x0), (1, .int x1), (2, .int x2)]) hx (dc kX11_answer_0 28 rfl) (hn 4 (by decide)) [0, 1, 2, 3] rfl ⟨⟨show (3 : Nat) ≠ 4 by decide, Or.inr rfl⟩, ⟨⟨show (0 : Nat) ≠ 4 by decide, Or.inl (show (0 : Nat) + 1 ≠ 4 by decide)⟩, ⟨⟨show (1 : Nat) ≠ 4 by decide, Or.inl (show (1 : Nat) + 1 ≠ 4 by decide)⟩, ⟨⟨show (2 : Nat) ≠ 4 by decide, Or.inl (show (2 : Nat) + 1 ≠ 4 by decide)⟩, trivial⟩⟩⟩⟩ rfl ?_
    refine j_iload (q := 55) hx (dc kX11_answer_0 29 rfl) 0 rfl rfl ?_
    refine j_iconst (q := 56) (v := (1 : Int32)) hx (dc kX11_answer_0 30 rfl) (by decide) rfl ?_
    refine j_icmp_eq (q := 59) (tgt := 65) hx (dc kX11_answer_0 31 rfl) (by decide) Iff.rfl rfl ?_ ?_
    · refine j_bipush (q := 67) (v := (-3 : Int32)) hx (dc kX11_answer_0 35 rfl) (by decide) rfl ?_
      exact r_iW hx hR (dc kX11_answer_0 36 rfl)
    · refine j_iload (q := 61) hx (dc kX11_answer_0 32 rfl) 0 rfl rfl ?_
      refine j_iload_n (q := 62) hx (dc kX11_answer_0 33 rfl) rfl 1 rfl rfl ?_
      refine j_icmp_neS (q := 65) (tgt := 68) hx (dc kX11_answer_0 34 rfl) (by decide) rfl ?_ ?_
      · refine j_iload_n (q := 69) hx (dc kX11_answer_0 37 rfl) rfl 1 rfl rfl ?_
        refine j_iconst (q := 70) (v := (1 : Int32)) hx (dc kX11_answer_0 38 rfl) (by decide) rfl ?_
        refine j_icmp_neS (q := 73) (tgt := 94) hx (dc kX11_answer_0 39 rfl) (by decide) rfl ?_ ?_
        · exact j_sub [2, 3, 4, 1] rfl (hb94 x0 x1 x2 t0 h)
        · refine j_aload_n (q := 74) hx (dc kX11_answer_0 40 rfl) rfl 2 rfl rfl ?_
          refine j_iload_n (q := 75) hx (dc kX11_answer_0 41 rfl) rfl 3 rfl rfl ?_
          refine j_iload_n (q := 76) hx (dc kX11_answer_0 42 rfl) rfl 4 rfl rfl ?_
          refine j_iconst (q := 77) (v := (1 : Int32)) hx (dc kX11_answer_0 43 rfl) (by decide) rfl ?_
          refine j_icmp_neS (q := 80) (tgt := 84) hx (dc kX11_answer_0 44 rfl) (by decide) rfl ?_ ?_
          · refine j_iconst (q := 85) (v := (0 : Int32)) hx (dc kX11_answer_0 47 rfl) (by decide) rfl ?_
            exact j_sub [2, 3, 4, 1] rfl (hb85 x0 x1 x2 t0 x0 x1 (0 : Int32) h)
          · refine j_iconst (q := 81) (v := (1 : Int32)) hx (dc kX11_answer_0 45 rfl) (by decide) rfl ?_
            refine j_goto (q := 85) hx (dc kX11_answer_0 46 rfl) (by decide) ?_
            exact j_sub [2, 3, 4, 1] rfl (hb85 x0 x1 x2 t0 x0 x1 (1 : Int32) h)
      · refine j_bipush (q := 67) (v := (-3 : Int32)) hx (dc kX11_answer_0 35 rfl) (by decide) rfl ?_
        exact r_iW hx hR (dc kX11_answer_0 36 rfl)
  unfold mX11_answer
  refine J.ckd fun hck => ?_
  refine j_aload_n (q := 1) hx (dc kX11_answer_0 0 rfl) rfl 0 rfl rfl ?_
  refine j_iload_n (q := 2) hx (dc kX11_answer_0 1 rfl) rfl 1 rfl rfl ?_
  refine w_cVIR (q := 5) (As := [.int x1]) (st := []) hx (dc kX11_answer_0 2 rfl) cf11 (by decide) rfl (cI _ my_X11_isFact lm_X11_146 (by decide)) vs_X11_isFact rfl (fun u hu => sX11_isFact _ _ _ _ _ _ hu) (fun e => ite_ne (by unfold mX11_isFact at e; exact e)) (Nat.zero_le _) rfl (fun v1 => ?_)
  refine j_if_eq (q := 8) (tgt := 17) hx (dc kX11_answer_0 3 rfl) (by decide) Iff.rfl rfl ?_ ?_
  · refine j_iconst (q := 18) (v := (-1 : Int32)) hx (dc kX11_answer_0 9 rfl) (by decide) rfl ?_
    exact r_iW hx hR (dc kX11_answer_0 10 rfl)
  · refine j_iload_n (q := 9) hx (dc kX11_answer_0 4 rfl) rfl 2 rfl rfl ?_
    refine j_if_lt (q := 12) (tgt := 17) hx (dc kX11_answer_0 5 rfl) (by decide) Iff.rfl rfl ?_ ?_
    · refine j_iconst (q := 18) (v := (-1 : Int32)) hx (dc kX11_answer_0 9 rfl) (by decide) rfl ?_
      exact r_iW hx hR (dc kX11_answer_0 10 rfl)
    · refine j_iload_n (q := 13) hx (dc kX11_answer_0 6 rfl) rfl 2 rfl rfl ?_
      refine j_iconst (q := 14) (v := (3 : Int32)) hx (dc kX11_answer_0 7 rfl) (by decide) rfl ?_
      refine j_icmp_leS (q := 17) (tgt := 19) hx (dc kX11_answer_0 8 rfl) (by decide) rfl ?_ ?_
      · refine j_aload_n (q := 20) hx (dc kX11_answer_0 11 rfl) rfl 0 rfl rfl ?_
        refine w_gR (q := 23) hx (dc kX11_answer_0 12 rfl) ff_X11_5 lk_X11_43 rfl (fun v3 => ?_)
        refine w_gI (q := 26) hx (dc kX11_answer_0 13 rfl) ff_X5_1 lk_X11_224 rfl (fun v4 => ?_)
        refine j_if_eq (q := 29) (tgt := 32) hx (dc kX11_answer_0 14 rfl) (by decide) Iff.rfl rfl ?_ ?_
        · refine j_iload_n (q := 33) hx (dc kX11_answer_0 17 rfl) rfl 2 rfl rfl ?_
          refine j_iconst (q := 34) (v := (2 : Int32)) hx (dc kX11_answer_0 18 rfl) (by decide) rfl ?_
          refine j_icmp_geS (q := 37) (tgt := 41) hx (dc kX11_answer_0 19 rfl) (by decide) rfl ?_ ?_
          · refine j_iload_n (q := 42) hx (dc kX11_answer_0 22 rfl) rfl 2 rfl rfl ?_
            exact hb42 x0 x1 x2 x2 h
          · refine j_iconst (q := 38) (v := (1 : Int32)) hx (dc kX11_answer_0 20 rfl) (by decide) rfl ?_
            refine j_goto (q := 42) hx (dc kX11_answer_0 21 rfl) (by decide) ?_
            exact hb42 x0 x1 x2 (1 : Int32) h
        · refine j_bipush (q := 31) (v := (-2 : Int32)) hx (dc kX11_answer_0 15 rfl) (by decide) rfl ?_
          exact r_iW hx hR (dc kX11_answer_0 16 rfl)
      · refine j_iconst (q := 18) (v := (-1 : Int32)) hx (dc kX11_answer_0 9 rfl) (by decide) rfl ?_
        exact r_iW hx hR (dc kX11_answer_0 10 rfl)

set_option maxHeartbeats 4000000 in
set_option maxRecDepth 100000 in
theorem sX11_withdraw (l : Launch) (w : Wd) (x0 : Nat) (x1 : Int32) (h : Hp) (u : (Int32 × Hp)) (hK : mX11_withdraw x0 x1 h = some u) : M1 l w mi_X11_withdraw 4 [vR w x0, .int x1] h u.2 (some (.int u.1)) := by
  refine M1.of (own := RX11) (T := fun _ r => r = u) hK (by decide +kernel) rfl (by first | (simp only [lg_lenR, lg_lenI, lg_lenL, lg_len0]; decide) | decide) (fun x hx hnl hhf hl hw hret hnm hQ h0e => ⟨?_, rfl⟩)
  subst hw
  subst hl
  have hR : Rt x h u.2 (some (.int u.1)) ((some .int)) := ⟨h0e, hhf, hret, hQ⟩
  have hn : ∀ i, i < 2 → i < x.2.2.1.1.1 := fun i hi => by rw [hnl]; exact hi
  have e0 : lv_args 0 [vR x.2.2.2 x0, .int x1] = [(0, vR x.2.2.2 x0), (1, .int x1)] := by simp only [lv_argsR, lv_argsI, lv_argsL, lv_args0]
  rw [e0]
  unfold mX11_withdraw
  refine J.ckd fun hck => ?_
  refine j_aload_n (q := 1) hx (dc kX11_withdraw_0 0 rfl) rfl 0 rfl rfl ?_
  refine j_iload_n (q := 2) hx (dc kX11_withdraw_0 1 rfl) rfl 1 rfl rfl ?_
  refine w_cVIR (q := 5) (As := [.int x1]) (st := []) hx (dc kX11_withdraw_0 2 rfl) cf11 (by decide) rfl (cI _ my_X11_isFact lm_X11_146 (by decide)) vs_X11_isFact rfl (fun u hu => sX11_isFact _ _ _ _ _ _ hu) (fun e => ite_ne (by unfold mX11_isFact at e; exact e)) (Nat.zero_le _) rfl (fun v1 => ?_)
  refine j_if_neS (q := 8) (tgt := 10) hx (dc kX11_withdraw_0 3 rfl) (by decide) rfl ?_ ?_
  · refine j_aload_n (q := 11) hx (dc kX11_withdraw_0 6 rfl) rfl 0 rfl rfl ?_
    refine w_gR (q := 14) hx (dc kX11_withdraw_0 7 rfl) ff_X11_5 lk_X11_43 rfl (fun v3 => ?_)
    refine w_gI (q := 17) hx (dc kX11_withdraw_0 8 rfl) ff_X5_1 lk_X11_224 rfl (fun v4 => ?_)
    refine j_if_eq (q := 20) (tgt := 23) hx (dc kX11_withdraw_0 9 rfl) (by decide) Iff.rfl rfl ?_ ?_
    · refine j_aload_n (q := 24) hx (dc kX11_withdraw_0 12 rfl) rfl 0 rfl rfl ?_
      refine w_gR (q := 27) hx (dc kX11_withdraw_0 13 rfl) ff_X11_5 lk_X11_43 rfl (fun v5 => ?_)
      refine j_iload_n (q := 28) hx (dc kX11_withdraw_0 14 rfl) rfl 1 rfl rfl ?_
      refine w_cVIR (q := 31) (As := [.int x1]) (st := []) hx (dc kX11_withdraw_0 15 rfl) cf5 (by decide) rfl (cI _ my_X5_howIs lm_X11_156 (by decide)) vs_X5_howIs rfl (fun u hu => sX5_howIs _ _ _ _ _ _ hu) (fun e => ite_ne (by unfold mX5_howIs at e; exact e)) (Nat.zero_le _) rfl (fun v6 => ?_)
      refine j_iconst (q := 32) (v := (1 : Int32)) hx (dc kX11_withdraw_0 16 rfl) (by decide) rfl ?_
      refine j_icmp_eq (q := 35) (tgt := 38) hx (dc kX11_withdraw_0 17 rfl) (by decide) Iff.rfl rfl ?_ ?_
      · refine j_aload_n (q := 39) hx (dc kX11_withdraw_0 20 rfl) rfl 0 rfl rfl ?_
        refine w_gR (q := 42) hx (dc kX11_withdraw_0 21 rfl) ff_X11_8 lk_X11_62 rfl (fun v8 => ?_)
        refine j_aload_n (q := 43) hx (dc kX11_withdraw_0 22 rfl) rfl 0 rfl rfl ?_
        refine w_gR (q := 46) hx (dc kX11_withdraw_0 23 rfl) ff_X11_5 lk_X11_43 rfl (fun v9 => ?_)
        refine w_cVVW (q := 49) (As := [vR x.2.2.2 v9]) (st := []) hx (dc kX11_withdraw_0 24 rfl) cf0 (by decide) rfl (cI _ my_X0_note lm_X11_232 (by decide)) vs_X0_note rfl (fun u hu => sX0_note _ _ _ _ _ _ hu) (fun e => ite_ne (by unfold mX0_note at e; exact e)) (Nat.zero_le _) rfl (fun h11 => ?_)
        refine j_aload_n (q := 50) hx (dc kX11_withdraw_0 25 rfl) rfl 0 rfl rfl ?_
        refine w_gR (q := 53) hx (dc kX11_withdraw_0 26 rfl) ff_X11_5 lk_X11_43 rfl (fun v12 => ?_)
        refine j_iload_n (q := 54) hx (dc kX11_withdraw_0 27 rfl) rfl 1 rfl rfl ?_
        refine j_iconst (q := 55) (v := (0 : Int32)) hx (dc kX11_withdraw_0 28 rfl) (by decide) rfl ?_
        refine j_iconst (q := 56) (v := (0 : Int32)) hx (dc kX11_withdraw_0 29 rfl) (by decide) rfl ?_
        refine w_cVVW (q := 59) (As := [.int x1, .int (0 : Int32), .int (0 : Int32)]) (st := []) hx (dc kX11_withdraw_0 30 rfl) cf5 (by decide) rfl (cI _ my_X5_become lm_X11_236 (by decide)) vs_X5_become rfl (fun u hu => sX5_become _ _ _ _ _ _ _ _ hu) (fun e => ite_ne (by unfold mX5_become at e; exact e)) (Nat.zero_le _) rfl (fun h14 => ?_)
        refine j_aload_n (q := 60) hx (dc kX11_withdraw_0 31 rfl) rfl 0 rfl rfl ?_
        refine w_gR (q := 63) hx (dc kX11_withdraw_0 32 rfl) ff_X11_5 lk_X11_43 rfl (fun v15 => ?_)
        refine w_cVIR (q := 66) (As := []) (st := []) hx (dc kX11_withdraw_0 33 rfl) cf5 (by decide) rfl (cI _ my_X5_answered lm_X11_240 (by decide)) vs_X5_answered rfl (fun u hu => sX5_answered _ _ _ _ _ hu) (fun e => ite_ne (by unfold mX5_answered at e; exact e)) (Nat.zero_le _) rfl (fun v16 => ?_)
        exact r_iW hx hR (dc kX11_withdraw_0 34 rfl)
      · refine j_bipush (q := 37) (v := (-3 : Int32)) hx (dc kX11_withdraw_0 18 rfl) (by decide) rfl ?_
        exact r_iW hx hR (dc kX11_withdraw_0 19 rfl)
    · refine j_bipush (q := 22) (v := (-2 : Int32)) hx (dc kX11_withdraw_0 10 rfl) (by decide) rfl ?_
      exact r_iW hx hR (dc kX11_withdraw_0 11 rfl)
  · refine j_iconst (q := 9) (v := (-1 : Int32)) hx (dc kX11_withdraw_0 4 rfl) (by decide) rfl ?_
    exact r_iW hx hR (dc kX11_withdraw_0 5 rfl)

set_option maxHeartbeats 4000000 in
set_option maxRecDepth 100000 in
theorem sX11_bySilence (l : Launch) (w : Wd) (x0 : Nat) (x1 : Int32) (h : Hp) (u : (Int32 × Hp)) (hK : mX11_bySilence x0 x1 h = some u) : M1 l w mi_X11_bySilence 5 [vR w x0, .int x1] h u.2 (some (.int u.1)) := by
  refine M1.of (own := RX11) (T := fun _ r => r = u) hK (by decide +kernel) rfl (by first | (simp only [lg_lenR, lg_lenI, lg_lenL, lg_len0]; decide) | decide) (fun x hx hnl hhf hl hw hret hnm hQ h0e => ⟨?_, rfl⟩)
  subst hw
  subst hl
  have hR : Rt x h u.2 (some (.int u.1)) ((some .int)) := ⟨h0e, hhf, hret, hQ⟩
  have hn : ∀ i, i < 5 → i < x.2.2.1.1.1 := fun i hi => by rw [hnl]; exact hi
  have e0 : lv_args 0 [vR x.2.2.2 x0, .int x1] = [(0, vR x.2.2.2 x0), (1, .int x1)] := by simp only [lv_argsR, lv_argsI, lv_argsL, lv_args0]
  rw [e0]
  have hb54 : ∀ (x3 : Int32) (x4 : Int32) (t0 : Nat) (t1 : Int32) (t2 : Int32) (h : Hp), J x 54 [(3, .int x3), (4, .int x4)] [.int t2, .int t1, vR x.2.2.2 t0] h (mX11_bySilence_b54 x3 x4 t0 t1 t2 h) (fun r => r = u) := by
    intro x3 x4 t0 t1 t2 h
    unfold mX11_bySilence_b54
    refine j_iload_n (q := 55) hx (dc kX11_bySilence_0 30 rfl) rfl 0 rfl rfl ?_
    refine w_cVVW (q := 58) (As := [.int t1, .int t2, .int x3]) (st := []) hx (dc kX11_bySilence_0 31 rfl) cf5 (by decide) rfl (cI _ my_X5_become lm_X11_236 (by decide)) vs_X5_become rfl (fun u hu => sX5_become _ _ _ _ _ _ _ _ hu) (fun e => ite_ne (by unfold mX5_become at e; exact e)) (Nat.zero_le _) rfl (fun h14 => ?_)
    refine j_iload (q := 60) hx (dc kX11_bySilence_0 32 rfl) 1 rfl rfl ?_
    refine j_if_eq (q := 63) (tgt := 67) hx (dc kX11_bySilence_0 33 rfl) (by decide) Iff.rfl rfl ?_ ?_
    · refine j_iconst (q := 68) (v := (0 : Int32)) hx (dc kX11_bySilence_0 36 rfl) (by decide) rfl ?_
      exact r_iW hx hR (dc kX11_bySilence_0 37 rfl)
    · refine j_iconst (q := 64) (v := (1 : Int32)) hx (dc kX11_bySilence_0 34 rfl) (by decide) rfl ?_
      refine j_goto (q := 68) hx (dc kX11_bySilence_0 35 rfl) (by decide) ?_
      exact r_iW hx hR (dc kX11_bySilence_0 37 rfl)
  unfold mX11_bySilence
  refine J.ckd fun hck => ?_
  refine j_aload_n (q := 1) hx (dc kX11_bySilence_0 0 rfl) rfl 0 rfl rfl ?_
  refine w_gR (q := 4) hx (dc kX11_bySilence_0 1 rfl) ff_X11_5 lk_X11_43 rfl (fun v1 => ?_)
  refine j_iload_n (q := 5) hx (dc kX11_bySilence_0 2 rfl) rfl 1 rfl rfl ?_
  refine w_cVIR (q := 8) (As := [.int x1]) (st := []) hx (dc kX11_bySilence_0 3 rfl) cf5 (by decide) rfl (cI _ my_X5_firstSayer lm_X11_425 (by decide)) vs_X5_firstSayer rfl (fun u hu => sX5_firstSayer _ _ _ _ _ _ hu) (fun e => ite_ne (by unfold mX5_firstSayer at e; exact e)) (Nat.zero_le _) rfl (fun v2 => ?_)
  refine j_istore_n (q := 9) (i := 2) (l2 := [(0, vR x.2.2.2 x0), (1, .int x1)]) hx (dc kX11_bySilence_0 4 rfl) rfl (hn 2 (by decide)) [0, 1] rfl ⟨⟨show (0 : Nat) ≠ 2 by decide, Or.inl (show (0 : Nat) + 1 ≠ 2 by decide)⟩, ⟨⟨show (1 : Nat) ≠ 2 by decide, Or.inr rfl⟩, trivial⟩⟩ rfl ?_
  refine j_iload_n (q := 10) hx (dc kX11_bySilence_0 5 rfl) rfl 0 rfl rfl ?_
  refine j_if_geS (q := 13) (tgt := 15) hx (dc kX11_bySilence_0 6 rfl) (by decide) rfl ?_ ?_
  · refine j_aload_n (q := 16) hx (dc kX11_bySilence_0 9 rfl) rfl 1 rfl rfl ?_
    refine w_gR (q := 19) hx (dc kX11_bySilence_0 10 rfl) ff_X11_5 lk_X11_43 rfl (fun v4 => ?_)
    refine w_gR (q := 22) hx (dc kX11_bySilence_0 11 rfl) ff_X5_14 lk_X11_201 rfl (fun v5 => ?_)
    refine j_iload_n (q := 23) hx (dc kX11_bySilence_0 12 rfl) rfl 0 rfl rfl ?_
    refine w_cSIR (q := 26) (As := [vR x.2.2.2 v5, .int v2]) (st := []) hx (dc kX11_bySilence_0 13 rfl) (cI _ my_X11_at lm_X11_152 (by decide)) st_X11_at rfl (fun u hu => sX11_at _ _ _ _ _ _ hu) (Nat.zero_le _) rfl (fun v6 => ?_)
    refine j_iload_n (q := 27) hx (dc kX11_bySilence_0 14 rfl) rfl 2 rfl rfl ?_
    refine w_cSIR (q := 30) (As := [.int v6, .int x1]) (st := []) hx (dc kX11_bySilence_0 15 rfl) (cI _ my_X11_has lm_X11_164 (by decide)) st_X11_has rfl (fun u hu => sX11_has _ _ _ _ _ _ hu) (Nat.zero_le _) rfl (fun v8 => ?_)
    refine j_istore_n (q := 31) (i := 3) (l2 := [(0, vR x.2.2.2 x0), (1, .int x1)]) hx (dc kX11_bySilence_0 16 rfl) rfl (hn 3 (by decide)) [1, 2] rfl ⟨⟨show (0 : Nat) ≠ 3 by decide, Or.inl (show (0 : Nat) + 1 ≠ 3 by decide)⟩, ⟨⟨show (1 : Nat) ≠ 3 by decide, Or.inl (show (1 : Nat) + 1 ≠ 3 by decide)⟩, trivial⟩⟩ rfl ?_
    refine j_aload_n (q := 32) hx (dc kX11_bySilence_0 17 rfl) rfl 1 rfl rfl ?_
    refine j_iload_n (q := 33) hx (dc kX11_bySilence_0 18 rfl) rfl 2 rfl rfl ?_
    refine j_iload_n (q := 34) hx (dc kX11_bySilence_0 19 rfl) rfl 0 rfl rfl ?_
    refine w_cVIW (q := 37) (As := [.int x1, .int v8]) (st := []) hx (dc kX11_bySilence_0 20 rfl) cf11 (by decide) rfl (cI _ my_X11_leaves lm_X11_228 (by decide)) vs_X11_leaves rfl (fun u hu => sX11_leaves _ _ _ _ _ _ _ hu) (fun e => ite_ne (by unfold mX11_leaves at e; exact e)) (Nat.zero_le _) rfl (fun v10 h11 => ?_)
    refine j_istore (q := 39) (i := 4) (l2 := [(3, .int v8), (0, vR x.2.2.2 x0), (1, .int x1)]) hx (dc kX11_bySilence_0 21 rfl) (hn 4 (by decide)) [0, 1, 2] rfl ⟨⟨show (3 : Nat) ≠ 4 by decide, Or.inr rfl⟩, ⟨⟨show (0 : Nat) ≠ 4 by decide, Or.inl (show (0 : Nat) + 1 ≠ 4 by decide)⟩, ⟨⟨show (1 : Nat) ≠ 4 by decide, Or.inl (show (1 : Nat) + 1 ≠ 4 by decide)⟩, trivial⟩⟩⟩ rfl ?_
    refine j_aload_n (q := 40) hx (dc kX11_bySilence_0 22 rfl) rfl 2 rfl rfl ?_
    refine w_gR (q := 43) hx (dc kX11_bySilence_0 23 rfl) ff_X11_5 lk_X11_43 rfl (fun v12 => ?_)
    refine j_iload_n (q := 44) hx (dc kX11_bySilence_0 24 rfl) rfl 3 rfl rfl ?_
    refine j_iload (q := 46) hx (dc kX11_bySilence_0 25 rfl) 0 rfl rfl ?_
    refine j_if_eq (q := 49) (tgt := 53) hx (dc kX11_bySilence_0 26 rfl) (by decide) Iff.rfl rfl ?_ ?_
    · refine j_iconst (q := 54) (v := (3 : Int32)) hx (dc kX11_bySilence_0 29 rfl) (by decide) rfl ?_
      exact j_sub [1, 0] rfl (hb54 v8 v10 v12 x1 (3 : Int32) h11)
    · refine j_iconst (q := 50) (v := (1 : Int32)) hx (dc kX11_bySilence_0 27 rfl) (by decide) rfl ?_
      refine j_goto (q := 54) hx (dc kX11_bySilence_0 28 rfl) (by decide) ?_
      exact j_sub [1, 0] rfl (hb54 v8 v10 v12 x1 (1 : Int32) h11)
  · refine j_iconst (q := 14) (v := (0 : Int32)) hx (dc kX11_bySilence_0 7 rfl) (by decide) rfl ?_
    exact r_iW hx hR (dc kX11_bySilence_0 8 rfl)

set_option maxHeartbeats 4000000 in
set_option maxRecDepth 100000 in
theorem sX11_close (l : Launch) (w : Wd) (x0 : Nat) (h : Hp) (u : (Int32 × Hp)) (hK : mX11_close x0 h = some u) : M1 l w mi_X11_close 6 [vR w x0] h u.2 (some (.int u.1)) := by
  refine M1.of (own := RX11) (T := fun _ r => r = u) hK (by decide +kernel) rfl (by first | (simp only [lg_lenR, lg_lenI, lg_lenL, lg_len0]; decide) | decide) (fun x hx hnl hhf hl hw hret hnm hQ h0e => ⟨?_, rfl⟩)
  subst hw
  subst hl
  have hR : Rt x h u.2 (some (.int u.1)) ((some .int)) := ⟨h0e, hhf, hret, hQ⟩
  have hn : ∀ i, i < 3 → i < x.2.2.1.1.1 := fun i hi => by rw [hnl]; exact hi
  have e0 : lv_args 0 [vR x.2.2.2 x0] = [(0, vR x.2.2.2 x0)] := by simp only [lv_argsR, lv_argsI, lv_argsL, lv_args0]
  rw [e0]
  have hb70 : ∀ (x0 : Nat) (x1 : Int32) (h : Hp), J x 70 [(0, vR x.2.2.2 x0), (1, .int x1)] [] h (mX11_close_b70 x0 x1 h) (fun r => r = u) := by
    intro x0 x1 h
    unfold mX11_close_b70
    refine j_aload_n (q := 71) hx (dc kX11_close_0 36 rfl) rfl 0 rfl rfl ?_
    refine w_gR (q := 74) hx (dc kX11_close_0 37 rfl) ff_X11_5 lk_X11_43 rfl (fun v9 => ?_)
    refine j_iconst (q := 75) (v := (1 : Int32)) hx (dc kX11_close_0 38 rfl) (by decide) rfl ?_
    refine w_sZ (q := 78) hx (dc kX11_close_0 39 rfl) ff_X5_1 rfl lk_X11_224 (Or.inl rfl) rfl (fun h10 => ?_)
    refine j_iload_n (q := 79) hx (dc kX11_close_0 40 rfl) rfl 1 rfl rfl ?_
    exact r_iW hx hR (dc kX11_close_0 41 rfl)
  have hb28 : ∀ (x0 : Nat) (x1 : Int32) (x2 : Int32) (h : Hp), J x 28 [(0, vR x.2.2.2 x0), (1, .int x1), (2, .int x2)] [] h (mX11_close_l28 x0 x1 x2 h) (fun r => r = u) := by
    intro x0 x1 x2 h
    have hB : ∀ (x1 : Int32) (x2 : Int32) (h : Hp), J x 28 [(0, vR x.2.2.2 x0), (1, .int x1), (2, .int x2)] [] h (mX11_close_l28f x0 x1 x2 h) (TLo (S := (Int32 × Int32 × Hp)) x 28 (fun s => [(0, vR x.2.2.2 x0), (1, .int s.1), (2, .int s.2.1)]) [] (fun s => s.2.2) (fun r => r = u)) := by
      intro x1 x2 h
      have hb64 : ∀ (x0 : Nat) (x1 : Int32) (x2 : Int32) (h : Hp), J x 64 [(0, vR x.2.2.2 x0), (1, .int x1), (2, .int x2)] [] h (mX11_close_b64 x0 x1 x2 h) (TLo (S := (Int32 × Int32 × Hp)) x 28 (fun s => [(0, vR x.2.2.2 x0), (1, .int s.1), (2, .int s.2.1)]) [] (fun s => s.2.2) (fun r => r = u)) := by
        intro x0 x1 x2 h
        unfold mX11_close_b64
        refine j_iinc (q := 67) (l2 := [(0, vR x.2.2.2 x0), (1, .int x1)]) hx (dc kX11_close_0 34 rfl) 2 rfl (v := (1 : Int32)) (by decide) (hn 2 (by decide)) [0, 1] rfl ⟨⟨show (0 : Nat) ≠ 2 by decide, Or.inl (show (0 : Nat) + 1 ≠ 2 by decide)⟩, ⟨⟨show (1 : Nat) ≠ 2 by decide, Or.inr rfl⟩, trivial⟩⟩ rfl ?_
        refine j_goto (q := 28) hx (dc kX11_close_0 35 rfl) (by decide) ?_
        exact j_back [1, 2, 0] (x1, (x2 + (1 : Int32)), h) rfl rfl
      unfold mX11_close_l28f
      refine j_iload_n (q := 29) hx (dc kX11_close_0 15 rfl) rfl 2 rfl rfl ?_
      refine j_aload_n (q := 30) hx (dc kX11_close_0 16 rfl) rfl 0 rfl rfl ?_
      refine w_gR (q := 33) hx (dc kX11_close_0 17 rfl) ff_X11_3 lk_X11_33 rfl (fun v7 => ?_)
      refine w_gI (q := 36) hx (dc kX11_close_0 18 rfl) ff_X1_1 lk_X11_243 rfl (fun v8 => ?_)
      refine j_icmp_geS (q := 39) (tgt := 70) hx (dc kX11_close_0 19 rfl) (by decide) rfl ?_ ?_
      · refine j_exit ?_
        exact j_sub [0, 1] rfl (hb70 x0 x1 h)
      · refine j_iload_n (q := 40) hx (dc kX11_close_0 20 rfl) rfl 2 rfl rfl ?_
        refine j_bipush (q := 42) (v := (8 : Int32)) hx (dc kX11_close_0 21 rfl) (by decide) rfl ?_
        refine j_icmp_geS (q := 45) (tgt := 70) hx (dc kX11_close_0 22 rfl) (by decide) rfl ?_ ?_
        · refine j_exit ?_
          exact j_sub [0, 1] rfl (hb70 x0 x1 h)
        · refine j_aload_n (q := 46) hx (dc kX11_close_0 23 rfl) rfl 0 rfl rfl ?_
          refine w_gR (q := 49) hx (dc kX11_close_0 24 rfl) ff_X11_5 lk_X11_43 rfl (fun v11 => ?_)
          refine j_iload_n (q := 50) hx (dc kX11_close_0 25 rfl) rfl 2 rfl rfl ?_
          refine w_cVIR (q := 53) (As := [.int x2]) (st := []) hx (dc kX11_close_0 26 rfl) cf5 (by decide) rfl (cI _ my_X5_howIs lm_X11_156 (by decide)) vs_X5_howIs rfl (fun u hu => sX5_howIs _ _ _ _ _ _ hu) (fun e => ite_ne (by unfold mX5_howIs at e; exact e)) (Nat.zero_le _) rfl (fun v12 => ?_)
          refine j_if_neS (q := 56) (tgt := 64) hx (dc kX11_close_0 27 rfl) (by decide) rfl ?_ ?_
          · exact hb64 x0 x1 x2 h
          · refine j_iload_n (q := 57) hx (dc kX11_close_0 28 rfl) rfl 1 rfl rfl ?_
            refine j_aload_n (q := 58) hx (dc kX11_close_0 29 rfl) rfl 0 rfl rfl ?_
            refine j_iload_n (q := 59) hx (dc kX11_close_0 30 rfl) rfl 2 rfl rfl ?_
            refine w_cVIW (q := 62) (As := [.int x2]) (st := [.int x1]) hx (dc kX11_close_0 31 rfl) cf11 (by decide) rfl (cI _ my_X11_bySilence lm_X11_246 (by decide)) vs_X11_bySilence rfl (fun u hu => sX11_bySilence _ _ _ _ _ _ hu) (fun e => ite_ne (by unfold mX11_bySilence at e; exact e)) (sum_le (sum_I sum_nil) (by decide)) rfl (fun v14 h15 => ?_)
            refine j_iadd (q := 63) hx (dc kX11_close_0 32 rfl) rfl ?_
            refine j_istore_n (q := 64) (i := 1) (l2 := [(0, vR x.2.2.2 x0), (2, .int x2)]) hx (dc kX11_close_0 33 rfl) rfl (hn 1 (by decide)) [0, 2] rfl ⟨⟨show (0 : Nat) ≠ 1 by decide, Or.inr (vR_cat _ _)⟩, ⟨⟨show (2 : Nat) ≠ 1 by decide, Or.inl (show (2 : Nat) + 1 ≠ 1 by decide)⟩, trivial⟩⟩ rfl ?_
            exact j_sub [1, 0, 2] rfl (hb64 x0 (x1 + v14) x2 h15)
    exact j_loop (S := (Int32 × Int32 × Hp)) (lvf := fun s => [(0, vR x.2.2.2 x0), (1, .int s.1), (2, .int s.2.1)]) (hpf := fun s => s.2.2) (f := (fun s : (Int32 × Int32 × Hp) => mX11_close_l28f x0 s.1 s.2.1 s.2.2)) (fun s => hB s.1 s.2.1 s.2.2) (x1, x2, h)
  unfold mX11_close
  refine J.ckd fun hck => ?_
  refine j_aload_n (q := 1) hx (dc kX11_close_0 0 rfl) rfl 0 rfl rfl ?_
  refine w_gR (q := 4) hx (dc kX11_close_0 1 rfl) ff_X11_5 lk_X11_43 rfl (fun v1 => ?_)
  refine w_gI (q := 7) hx (dc kX11_close_0 2 rfl) ff_X5_1 lk_X11_224 rfl (fun v2 => ?_)
  refine j_if_eq (q := 10) (tgt := 13) hx (dc kX11_close_0 3 rfl) (by decide) Iff.rfl rfl ?_ ?_
  · refine j_aload_n (q := 14) hx (dc kX11_close_0 6 rfl) rfl 0 rfl rfl ?_
    refine w_gR (q := 17) hx (dc kX11_close_0 7 rfl) ff_X11_8 lk_X11_62 rfl (fun v3 => ?_)
    refine j_aload_n (q := 18) hx (dc kX11_close_0 8 rfl) rfl 0 rfl rfl ?_
    refine w_gR (q := 21) hx (dc kX11_close_0 9 rfl) ff_X11_5 lk_X11_43 rfl (fun v4 => ?_)
    refine w_cVVW (q := 24) (As := [vR x.2.2.2 v4]) (st := []) hx (dc kX11_close_0 10 rfl) cf0 (by decide) rfl (cI _ my_X0_note lm_X11_232 (by decide)) vs_X0_note rfl (fun u hu => sX0_note _ _ _ _ _ _ hu) (fun e => ite_ne (by unfold mX0_note at e; exact e)) (Nat.zero_le _) rfl (fun h6 => ?_)
    refine j_iconst (q := 25) (v := (0 : Int32)) hx (dc kX11_close_0 11 rfl) (by decide) rfl ?_
    refine j_istore_n (q := 26) (i := 1) (l2 := [(0, vR x.2.2.2 x0)]) hx (dc kX11_close_0 12 rfl) rfl (hn 1 (by decide)) [0] rfl ⟨⟨show (0 : Nat) ≠ 1 by decide, Or.inr (vR_cat _ _)⟩, trivial⟩ rfl ?_
    refine j_iconst (q := 27) (v := (0 : Int32)) hx (dc kX11_close_0 13 rfl) (by decide) rfl ?_
    refine j_istore_n (q := 28) (i := 2) (l2 := [(1, .int (0 : Int32)), (0, vR x.2.2.2 x0)]) hx (dc kX11_close_0 14 rfl) rfl (hn 2 (by decide)) [0, 1] rfl ⟨⟨show (1 : Nat) ≠ 2 by decide, Or.inr rfl⟩, ⟨⟨show (0 : Nat) ≠ 2 by decide, Or.inl (show (0 : Nat) + 1 ≠ 2 by decide)⟩, trivial⟩⟩ rfl ?_
    exact j_sub [2, 1, 0] rfl (hb28 x0 (0 : Int32) (0 : Int32) h6)
  · refine j_bipush (q := 12) (v := (-2 : Int32)) hx (dc kX11_close_0 4 rfl) (by decide) rfl ?_
    exact r_iW hx hR (dc kX11_close_0 5 rfl)

set_option maxHeartbeats 4000000 in
set_option maxRecDepth 100000 in
theorem sX11_unknown (l : Launch) (w : Wd) (x0 : Nat) (h : Hp) (u : Int32) (hK : mX11_unknown x0 h = some u) : M1 l w mi_X11_unknown 2 [vR w x0] h h (some (.int u)) := by
  refine M1.of (own := RX11) (T := fun _ r => r = u) hK (by decide +kernel) rfl (by first | (simp only [lg_lenR, lg_lenI, lg_lenL, lg_len0]; decide) | decide) (fun x hx hnl hhf hl hw hret hnm hQ h0e => ⟨?_, rfl⟩)
  subst hw
  subst hl
  have hR : Rt x h h (some (.int u)) ((some .int)) := ⟨h0e, hhf, hret, hQ⟩
  have hn : ∀ i, i < 1 → i < x.2.2.1.1.1 := fun i hi => by rw [hnl]; exact hi
  have e0 : lv_args 0 [vR x.2.2.2 x0] = [(0, vR x.2.2.2 x0)] := by simp only [lv_argsR, lv_argsI, lv_argsL, lv_args0]
  rw [e0]
  unfold mX11_unknown
  refine J.ckd fun hck => ?_
  refine j_iconst (q := 1) (v := (1 : Int32)) hx (dc kX11_unknown_0 0 rfl) (by decide) rfl ?_
  refine j_aload_n (q := 2) hx (dc kX11_unknown_0 1 rfl) rfl 0 rfl rfl ?_
  refine w_gR (q := 5) hx (dc kX11_unknown_0 2 rfl) ff_X11_3 lk_X11_33 rfl (fun v1 => ?_)
  refine w_gI (q := 8) hx (dc kX11_unknown_0 3 rfl) ff_X1_1 lk_X11_243 rfl (fun v2 => ?_)
  refine j_ishl (q := 9) hx (dc kX11_unknown_0 4 rfl) rfl ?_
  refine j_iconst (q := 10) (v := (1 : Int32)) hx (dc kX11_unknown_0 5 rfl) (by decide) rfl ?_
  refine j_isub (q := 11) hx (dc kX11_unknown_0 6 rfl) rfl ?_
  refine j_aload_n (q := 12) hx (dc kX11_unknown_0 7 rfl) rfl 0 rfl rfl ?_
  refine w_gR (q := 15) hx (dc kX11_unknown_0 8 rfl) ff_X11_5 lk_X11_43 rfl (fun v3 => ?_)
  refine w_cVIR (q := 18) (As := []) (st := [.int (((1 : Int32) <<< (v2 &&& 31)) - (1 : Int32))]) hx (dc kX11_unknown_0 9 rfl) cf5 (by decide) rfl (cI _ my_X5_known lm_X11_160 (by decide)) vs_X5_known rfl (fun u hu => sX5_known _ _ _ _ _ hu) (fun e => ite_ne (by unfold mX5_known at e; exact e)) (sum_le (sum_I sum_nil) (by decide)) rfl (fun v4 => ?_)
  refine j_iconst (q := 19) (v := (-1 : Int32)) hx (dc kX11_unknown_0 10 rfl) (by decide) rfl ?_
  refine j_ixor (q := 20) hx (dc kX11_unknown_0 11 rfl) rfl ?_
  refine j_iand (q := 21) hx (dc kX11_unknown_0 12 rfl) rfl ?_
  exact r_iR hx hR (dc kX11_unknown_0 13 rfl)

set_option maxHeartbeats 4000000 in
set_option maxRecDepth 100000 in
theorem sX11_find (l : Launch) (w : Wd) (x0 : Nat) (x1 : Int32) (x2 : Int32) (h : Hp) (u : (Int32 × Hp)) (hK : mX11_find x0 x1 x2 h = some u) : M1 l w mi_X11_find 5 [vR w x0, .int x1, .int x2] h u.2 (some (.int u.1)) := by
  refine M1.of (own := RX11) (T := fun _ r => r = u) hK (by decide +kernel) rfl (by first | (simp only [lg_lenR, lg_lenI, lg_lenL, lg_len0]; decide) | decide) (fun x hx hnl hhf hl hw hret hnm hQ h0e => ⟨?_, rfl⟩)
  subst hw
  subst hl
  have hR : Rt x h u.2 (some (.int u.1)) ((some .int)) := ⟨h0e, hhf, hret, hQ⟩
  have hn : ∀ i, i < 3 → i < x.2.2.1.1.1 := fun i hi => by rw [hnl]; exact hi
  have e0 : lv_args 0 [vR x.2.2.2 x0, .int x1, .int x2] = [(0, vR x.2.2.2 x0), (1, .int x1), (2, .int x2)] := by simp only [lv_argsR, lv_argsI, lv_argsL, lv_args0]
  rw [e0]
  unfold mX11_find
  refine J.ckd fun hck => ?_
  refine j_aload_n (q := 1) hx (dc kX11_find_0 0 rfl) rfl 0 rfl rfl ?_
  refine j_iload_n (q := 2) hx (dc kX11_find_0 1 rfl) rfl 1 rfl rfl ?_
  refine w_cVIR (q := 5) (As := [.int x1]) (st := []) hx (dc kX11_find_0 2 rfl) cf11 (by decide) rfl (cI _ my_X11_isFact lm_X11_146 (by decide)) vs_X11_isFact rfl (fun u hu => sX11_isFact _ _ _ _ _ _ hu) (fun e => ite_ne (by unfold mX11_isFact at e; exact e)) (Nat.zero_le _) rfl (fun v1 => ?_)
  refine j_if_neS (q := 8) (tgt := 10) hx (dc kX11_find_0 3 rfl) (by decide) rfl ?_ ?_
  · refine j_aload_n (q := 11) hx (dc kX11_find_0 6 rfl) rfl 0 rfl rfl ?_
    refine w_gR (q := 14) hx (dc kX11_find_0 7 rfl) ff_X11_5 lk_X11_43 rfl (fun v3 => ?_)
    refine w_gI (q := 17) hx (dc kX11_find_0 8 rfl) ff_X5_1 lk_X11_224 rfl (fun v4 => ?_)
    refine j_if_neS (q := 20) (tgt := 23) hx (dc kX11_find_0 9 rfl) (by decide) rfl ?_ ?_
    · refine j_aload_n (q := 24) hx (dc kX11_find_0 12 rfl) rfl 0 rfl rfl ?_
      refine w_gR (q := 27) hx (dc kX11_find_0 13 rfl) ff_X11_5 lk_X11_43 rfl (fun v5 => ?_)
      refine w_cVIR (q := 30) (As := []) (st := []) hx (dc kX11_find_0 14 rfl) cf5 (by decide) rfl (cI _ my_X5_known lm_X11_160 (by decide)) vs_X5_known rfl (fun u hu => sX5_known _ _ _ _ _ hu) (fun e => ite_ne (by unfold mX5_known at e; exact e)) (Nat.zero_le _) rfl (fun v6 => ?_)
      refine j_iload_n (q := 31) hx (dc kX11_find_0 15 rfl) rfl 1 rfl rfl ?_
      refine w_cSIR (q := 34) (As := [.int v6, .int x1]) (st := []) hx (dc kX11_find_0 16 rfl) (cI _ my_X11_has lm_X11_164 (by decide)) st_X11_has rfl (fun u hu => sX11_has _ _ _ _ _ _ hu) (Nat.zero_le _) rfl (fun v8 => ?_)
      refine j_if_eq (q := 37) (tgt := 40) hx (dc kX11_find_0 17 rfl) (by decide) Iff.rfl rfl ?_ ?_
      · refine j_aload_n (q := 41) hx (dc kX11_find_0 20 rfl) rfl 0 rfl rfl ?_
        refine j_iload_n (q := 42) hx (dc kX11_find_0 21 rfl) rfl 1 rfl rfl ?_
        refine j_iload_n (q := 43) hx (dc kX11_find_0 22 rfl) rfl 2 rfl rfl ?_
        refine w_cVIW (q := 46) (As := [.int x1, .int x2]) (st := []) hx (dc kX11_find_0 23 rfl) cf11 (by decide) rfl (cI _ my_X11_leaves lm_X11_228 (by decide)) vs_X11_leaves rfl (fun u hu => sX11_leaves _ _ _ _ _ _ _ hu) (fun e => ite_ne (by unfold mX11_leaves at e; exact e)) (Nat.zero_le _) rfl (fun v10 h11 => ?_)
        refine j_if_neS (q := 49) (tgt := 52) hx (dc kX11_find_0 24 rfl) (by decide) rfl ?_ ?_
        · refine j_aload_n (q := 53) hx (dc kX11_find_0 27 rfl) rfl 0 rfl rfl ?_
          refine w_gR (q := 56) hx (dc kX11_find_0 28 rfl) ff_X11_8 lk_X11_62 rfl (fun v12 => ?_)
          refine j_aload_n (q := 57) hx (dc kX11_find_0 29 rfl) rfl 0 rfl rfl ?_
          refine w_gR (q := 60) hx (dc kX11_find_0 30 rfl) ff_X11_5 lk_X11_43 rfl (fun v13 => ?_)
          refine w_cVVW (q := 63) (As := [vR x.2.2.2 v13]) (st := []) hx (dc kX11_find_0 31 rfl) cf0 (by decide) rfl (cI _ my_X0_note lm_X11_232 (by decide)) vs_X0_note rfl (fun u hu => sX0_note _ _ _ _ _ _ hu) (fun e => ite_ne (by unfold mX0_note at e; exact e)) (Nat.zero_le _) rfl (fun h15 => ?_)
          refine j_aload_n (q := 64) hx (dc kX11_find_0 32 rfl) rfl 0 rfl rfl ?_
          refine w_gR (q := 67) hx (dc kX11_find_0 33 rfl) ff_X11_5 lk_X11_43 rfl (fun v16 => ?_)
          refine j_iload_n (q := 68) hx (dc kX11_find_0 34 rfl) rfl 1 rfl rfl ?_
          refine j_iconst (q := 69) (v := (4 : Int32)) hx (dc kX11_find_0 35 rfl) (by decide) rfl ?_
          refine j_iload_n (q := 70) hx (dc kX11_find_0 36 rfl) rfl 2 rfl rfl ?_
          refine w_cVVW (q := 73) (As := [.int x1, .int (4 : Int32), .int x2]) (st := []) hx (dc kX11_find_0 37 rfl) cf5 (by decide) rfl (cI _ my_X5_become lm_X11_236 (by decide)) vs_X5_become rfl (fun u hu => sX5_become _ _ _ _ _ _ _ _ hu) (fun e => ite_ne (by unfold mX5_become at e; exact e)) (Nat.zero_le _) rfl (fun h18 => ?_)
          refine j_aload_n (q := 74) hx (dc kX11_find_0 38 rfl) rfl 0 rfl rfl ?_
          refine w_cVIR (q := 77) (As := []) (st := []) hx (dc kX11_find_0 39 rfl) cf11 (by decide) rfl (cI _ my_X11_unknown lm_X11_249 (by decide)) vs_X11_unknown rfl (fun u hu => sX11_unknown _ _ _ _ _ hu) (fun e => ite_ne (by unfold mX11_unknown at e; exact e)) (Nat.zero_le _) rfl (fun v19 => ?_)
          refine w_cSIR (q := 80) (As := [.int v19]) (st := []) hx (dc kX11_find_0 40 rfl) (cI _ my_J6_bitCount_0f7a4 lm_X11_252 (by decide)) st_J6_bitCount_0f7a4 rfl (fun u hu => sJ6_bitCount_0f7a4 _ _ _ _ _ hu) (Nat.zero_le _) rfl (fun v21 => ?_)
          exact r_iW hx hR (dc kX11_find_0 41 rfl)
        · refine j_bipush (q := 51) (v := (-4 : Int32)) hx (dc kX11_find_0 25 rfl) (by decide) rfl ?_
          exact r_iW hx hR (dc kX11_find_0 26 rfl)
      · refine j_bipush (q := 39) (v := (-3 : Int32)) hx (dc kX11_find_0 18 rfl) (by decide) rfl ?_
        exact r_iW hx hR (dc kX11_find_0 19 rfl)
    · refine j_bipush (q := 22) (v := (-2 : Int32)) hx (dc kX11_find_0 10 rfl) (by decide) rfl ?_
      exact r_iW hx hR (dc kX11_find_0 11 rfl)
  · refine j_iconst (q := 9) (v := (-1 : Int32)) hx (dc kX11_find_0 4 rfl) (by decide) rfl ?_
    exact r_iW hx hR (dc kX11_find_0 5 rfl)

set_option maxHeartbeats 4000000 in
set_option maxRecDepth 100000 in
theorem sX11_say (l : Launch) (w : Wd) (x0 : Nat) (x1 : Int32) (x2 : Int32) (x3 : Int32) (h : Hp) (u : (Int32 × Hp)) (hK : mX11_say x0 x1 x2 x3 h = some u) : M1 l w mi_X11_say 4 [vR w x0, .int x1, .int x2, .int x3] h u.2 (some (.int u.1)) := by
  refine M1.of (own := RX11) (T := fun _ r => r = u) hK (by decide +kernel) rfl (by first | (simp only [lg_lenR, lg_lenI, lg_lenL, lg_len0]; decide) | decide) (fun x hx hnl hhf hl hw hret hnm hQ h0e => ⟨?_, rfl⟩)
  subst hw
  subst hl
  have hR : Rt x h u.2 (some (.int u.1)) ((some .int)) := ⟨h0e, hhf, hret, hQ⟩
  have hn : ∀ i, i < 6 → i < x.2.2.1.1.1 := fun i hi => by rw [hnl]; exact hi
  have e0 : lv_args 0 [vR x.2.2.2 x0, .int x1, .int x2, .int x3] = [(0, vR x.2.2.2 x0), (1, .int x1), (2, .int x2), (3, .int x3)] := by simp only [lv_argsR, lv_argsI, lv_argsL, lv_args0]
  rw [e0]
  have hb160 : ∀ (x0 : Nat) (x1 : Int32) (x2 : Int32) (x3 : Int32) (h : Hp), J x 160 [(0, vR x.2.2.2 x0), (1, .int x1), (2, .int x2), (3, .int x3)] [] h (mX11_say_b160 x0 x1 x2 x3 h) (fun r => r = u) := by
    intro x0 x1 x2 x3 h
    unfold mX11_say_b160
    refine j_aload_n (q := 161) hx (dc kX11_say_1 16 rfl) rfl 0 rfl rfl ?_
    refine w_gR (q := 164) hx (dc kX11_say_1 17 rfl) ff_X11_8 lk_X11_62 rfl (fun v21 => ?_)
    refine j_aload_n (q := 165) hx (dc kX11_say_1 18 rfl) rfl 0 rfl rfl ?_
    refine w_gR (q := 168) hx (dc kX11_say_1 19 rfl) ff_X11_5 lk_X11_43 rfl (fun v22 => ?_)
    refine w_cVVW (q := 171) (As := [vR x.2.2.2 v22]) (st := []) hx (dc kX11_say_1 20 rfl) cf0 (by decide) rfl (cI _ my_X0_note lm_X11_232 (by decide)) vs_X0_note rfl (fun u hu => sX0_note _ _ _ _ _ _ hu) (fun e => ite_ne (by unfold mX0_note at e; exact e)) (Nat.zero_le _) rfl (fun h24 => ?_)
    refine j_aload_n (q := 172) hx (dc kX11_say_1 21 rfl) rfl 0 rfl rfl ?_
    refine w_gR (q := 175) hx (dc kX11_say_1 22 rfl) ff_X11_5 lk_X11_43 rfl (fun v25 => ?_)
    refine j_iload_n (q := 176) hx (dc kX11_say_1 23 rfl) rfl 1 rfl rfl ?_
    refine j_iload_n (q := 177) hx (dc kX11_say_1 24 rfl) rfl 2 rfl rfl ?_
    refine j_iload_n (q := 178) hx (dc kX11_say_1 25 rfl) rfl 3 rfl rfl ?_
    refine w_cVVW (q := 181) (As := [.int x1, .int x2, .int x3]) (st := []) hx (dc kX11_say_1 26 rfl) cf5 (by decide) rfl (cI _ my_X5_tell lm_X11_260 (by decide)) vs_X5_tell rfl (fun u hu => sX5_tell _ _ _ _ _ _ _ _ hu) (fun e => ite_ne (by unfold mX5_tell at e; exact e)) (Nat.zero_le _) rfl (fun h27 => ?_)
    refine j_aload_n (q := 182) hx (dc kX11_say_1 27 rfl) rfl 0 rfl rfl ?_
    refine w_gR (q := 185) hx (dc kX11_say_1 28 rfl) ff_X11_5 lk_X11_43 rfl (fun v28 => ?_)
    refine w_gR (q := 188) hx (dc kX11_say_1 29 rfl) ff_X5_13 lk_X11_198 rfl (fun v29 => ?_)
    refine j_iload_n (q := 189) hx (dc kX11_say_1 30 rfl) rfl 1 rfl rfl ?_
    refine w_cSIR (q := 192) (As := [vR x.2.2.2 v29, .int x1]) (st := []) hx (dc kX11_say_1 31 rfl) (cI _ my_X11_at lm_X11_152 (by decide)) st_X11_at rfl (fun u hu => sX11_at _ _ _ _ _ _ hu) (Nat.zero_le _) rfl (fun v30 => ?_)
    refine w_cSIR (q := 195) (As := [.int v30]) (st := []) hx (dc kX11_say_1 32 rfl) (cI _ my_J6_bitCount_0f7a4 lm_X11_252 (by decide)) st_J6_bitCount_0f7a4 rfl (fun u hu => sJ6_bitCount_0f7a4 _ _ _ _ _ hu) (Nat.zero_le _) rfl (fun v32 => ?_)
    exact r_iW hx hR (dc kX11_say_1 33 rfl)
  have hb154 : ∀ (x0 : Nat) (x1 : Int32) (x2 : Int32) (x3 : Int32) (t0 : Int32) (t1 : Int32) (h : Hp), J x 154 [(0, vR x.2.2.2 x0), (1, .int x1), (2, .int x2), (3, .int x3)] [.int t1, .int t0] h (mX11_say_b154 x0 x1 x2 x3 t0 t1 h) (fun r => r = u) := by
    intro x0 x1 x2 x3 t0 t1 h
    unfold mX11_say_b154
    refine j_icmp_eq (q := 157) (tgt := 160) hx (dc kX11_say_1 13 rfl) (by decide) Iff.rfl rfl ?_ ?_
    · exact hb160 x0 x1 x2 x3 h
    · refine j_bipush (q := 159) (v := (-4 : Int32)) hx (dc kX11_say_1 14 rfl) (by decide) rfl ?_
      exact r_iW hx hR (dc kX11_say_1 15 rfl)
  have hb114 : ∀ (x0 : Nat) (x1 : Int32) (x2 : Int32) (x3 : Int32) (h : Hp), J x 114 [(0, vR x.2.2.2 x0), (1, .int x1), (2, .int x2), (3, .int x3)] [] h (mX11_say_b114 x0 x1 x2 x3 h) (fun r => r = u) := by
    intro x0 x1 x2 x3 h
    unfold mX11_say_b114
    refine j_iload_n (q := 115) hx (dc kX11_say_0 57 rfl) rfl 3 rfl rfl ?_
    refine j_iconst (q := 116) (v := (2 : Int32)) hx (dc kX11_say_0 58 rfl) (by decide) rfl ?_
    refine j_icmp_geS (q := 119) (tgt := 160) hx (dc kX11_say_0 59 rfl) (by decide) rfl ?_ ?_
    · exact hb160 x0 x1 x2 x3 h
    · refine j_aload_n (q := 120) hx (dc kX11_say_0 60 rfl) rfl 0 rfl rfl ?_
      refine w_gR (q := 123) hx (dc kX11_say_0 61 rfl) ff_X11_5 lk_X11_43 rfl (fun v34 => ?_)
      refine w_cVIR (q := 126) (As := []) (st := []) hx (dc kX11_say_0 62 rfl) cf5 (by decide) rfl (cI _ my_X5_known lm_X11_160 (by decide)) vs_X5_known rfl (fun u hu => sX5_known _ _ _ _ _ hu) (fun e => ite_ne (by unfold mX5_known at e; exact e)) (Nat.zero_le _) rfl (fun v35 => ?_)
      refine j_iload_n (q := 127) hx (dc kX11_say_0 63 rfl) rfl 2 rfl rfl ?_
      refine w_cSIR (q := 130) (As := [.int v35, .int x2]) (st := []) hx (dc kX11_say_1 0 rfl) (cI _ my_X11_has lm_X11_164 (by decide)) st_X11_has rfl (fun u hu => sX11_has _ _ _ _ _ _ hu) (Nat.zero_le _) rfl (fun v37 => ?_)
      refine j_if_eq (q := 133) (tgt := 160) hx (dc kX11_say_1 1 rfl) (by decide) Iff.rfl rfl ?_ ?_
      · exact hb160 x0 x1 x2 x3 h
      · refine j_aload_n (q := 134) hx (dc kX11_say_1 2 rfl) rfl 0 rfl rfl ?_
        refine w_gR (q := 137) hx (dc kX11_say_1 3 rfl) ff_X11_5 lk_X11_43 rfl (fun v39 => ?_)
        refine w_gI (q := 140) hx (dc kX11_say_1 4 rfl) ff_X5_8 lk_X11_168 rfl (fun v40 => ?_)
        refine j_iload_n (q := 141) hx (dc kX11_say_1 5 rfl) rfl 2 rfl rfl ?_
        refine w_cSIR (q := 144) (As := [.int v40, .int x2]) (st := []) hx (dc kX11_say_1 6 rfl) (cI _ my_X11_has lm_X11_164 (by decide)) st_X11_has rfl (fun u hu => sX11_has _ _ _ _ _ _ hu) (Nat.zero_le _) rfl (fun v41 => ?_)
        refine j_iload_n (q := 145) hx (dc kX11_say_1 7 rfl) rfl 3 rfl rfl ?_
        refine j_iconst (q := 146) (v := (1 : Int32)) hx (dc kX11_say_1 8 rfl) (by decide) rfl ?_
        refine j_icmp_neS (q := 149) (tgt := 153) hx (dc kX11_say_1 9 rfl) (by decide) rfl ?_ ?_
        · refine j_iconst (q := 154) (v := (0 : Int32)) hx (dc kX11_say_1 12 rfl) (by decide) rfl ?_
          exact hb154 x0 x1 x2 x3 v41 (0 : Int32) h
        · refine j_iconst (q := 150) (v := (1 : Int32)) hx (dc kX11_say_1 10 rfl) (by decide) rfl ?_
          refine j_goto (q := 154) hx (dc kX11_say_1 11 rfl) (by decide) ?_
          exact hb154 x0 x1 x2 x3 v41 (1 : Int32) h
  have hb108 : ∀ (x0 : Nat) (x1 : Int32) (x2 : Int32) (x3 : Int32) (t0 : Int32) (t1 : Int32) (h : Hp), J x 108 [(0, vR x.2.2.2 x0), (1, .int x1), (2, .int x2), (3, .int x3)] [.int t1, .int t0] h (mX11_say_b108 x0 x1 x2 x3 t0 t1 h) (fun r => r = u) := by
    intro x0 x1 x2 x3 t0 t1 h
    unfold mX11_say_b108
    refine j_icmp_neS (q := 111) (tgt := 114) hx (dc kX11_say_0 54 rfl) (by decide) rfl ?_ ?_
    · exact hb114 x0 x1 x2 x3 h
    · refine j_bipush (q := 113) (v := (-3 : Int32)) hx (dc kX11_say_0 55 rfl) (by decide) rfl ?_
      exact r_iW hx hR (dc kX11_say_0 56 rfl)
  unfold mX11_say
  refine J.ckd fun hck => ?_
  refine j_aload_n (q := 1) hx (dc kX11_say_0 0 rfl) rfl 0 rfl rfl ?_
  refine j_iload_n (q := 2) hx (dc kX11_say_0 1 rfl) rfl 1 rfl rfl ?_
  refine w_cVIR (q := 5) (As := [.int x1]) (st := []) hx (dc kX11_say_0 2 rfl) cf11 (by decide) rfl (cI _ my_X11_isCount lm_X11_174 (by decide)) vs_X11_isCount rfl (fun u hu => sX11_isCount _ _ _ _ _ _ hu) (fun e => ite_ne (by unfold mX11_isCount at e; exact e)) (Nat.zero_le _) rfl (fun v1 => ?_)
  refine j_if_eq (q := 8) (tgt := 25) hx (dc kX11_say_0 3 rfl) (by decide) Iff.rfl rfl ?_ ?_
  · refine j_iconst (q := 26) (v := (-1 : Int32)) hx (dc kX11_say_0 13 rfl) (by decide) rfl ?_
    exact r_iW hx hR (dc kX11_say_0 14 rfl)
  · refine j_aload_n (q := 9) hx (dc kX11_say_0 4 rfl) rfl 0 rfl rfl ?_
    refine j_iload_n (q := 10) hx (dc kX11_say_0 5 rfl) rfl 2 rfl rfl ?_
    refine w_cVIR (q := 13) (As := [.int x2]) (st := []) hx (dc kX11_say_0 6 rfl) cf11 (by decide) rfl (cI _ my_X11_isFact lm_X11_146 (by decide)) vs_X11_isFact rfl (fun u hu => sX11_isFact _ _ _ _ _ _ hu) (fun e => ite_ne (by unfold mX11_isFact at e; exact e)) (Nat.zero_le _) rfl (fun v3 => ?_)
    refine j_if_eq (q := 16) (tgt := 25) hx (dc kX11_say_0 7 rfl) (by decide) Iff.rfl rfl ?_ ?_
    · refine j_iconst (q := 26) (v := (-1 : Int32)) hx (dc kX11_say_0 13 rfl) (by decide) rfl ?_
      exact r_iW hx hR (dc kX11_say_0 14 rfl)
    · refine j_iload_n (q := 17) hx (dc kX11_say_0 8 rfl) rfl 3 rfl rfl ?_
      refine j_if_lt (q := 20) (tgt := 25) hx (dc kX11_say_0 9 rfl) (by decide) Iff.rfl rfl ?_ ?_
      · refine j_iconst (q := 26) (v := (-1 : Int32)) hx (dc kX11_say_0 13 rfl) (by decide) rfl ?_
        exact r_iW hx hR (dc kX11_say_0 14 rfl)
      · refine j_iload_n (q := 21) hx (dc kX11_say_0 10 rfl) rfl 3 rfl rfl ?_
        refine j_iconst (q := 22) (v := (2 : Int32)) hx (dc kX11_say_0 11 rfl) (by decide) rfl ?_
        refine j_icmp_leS (q := 25) (tgt := 27) hx (dc kX11_say_0 12 rfl) (by decide) rfl ?_ ?_
        · refine j_aload_n (q := 28) hx (dc kX11_say_0 15 rfl) rfl 0 rfl rfl ?_
          refine w_gR (q := 31) hx (dc kX11_say_0 16 rfl) ff_X11_5 lk_X11_43 rfl (fun v5 => ?_)
          refine w_gI (q := 34) hx (dc kX11_say_0 17 rfl) ff_X5_3 lk_X11_257 rfl (fun v6 => ?_)
          refine j_iload_n (q := 35) hx (dc kX11_say_0 18 rfl) rfl 1 rfl rfl ?_
          refine w_cSIR (q := 38) (As := [.int v6, .int x1]) (st := []) hx (dc kX11_say_0 19 rfl) (cI _ my_X11_has lm_X11_164 (by decide)) st_X11_has rfl (fun u hu => sX11_has _ _ _ _ _ _ hu) (Nat.zero_le _) rfl (fun v7 => ?_)
          refine j_if_eq (q := 41) (tgt := 44) hx (dc kX11_say_0 20 rfl) (by decide) Iff.rfl rfl ?_ ?_
          · refine j_aload_n (q := 45) hx (dc kX11_say_0 23 rfl) rfl 0 rfl rfl ?_
            refine w_gR (q := 48) hx (dc kX11_say_0 24 rfl) ff_X11_5 lk_X11_43 rfl (fun v9 => ?_)
            refine w_gR (q := 51) hx (dc kX11_say_0 25 rfl) ff_X5_13 lk_X11_198 rfl (fun v10 => ?_)
            refine j_iload_n (q := 52) hx (dc kX11_say_0 26 rfl) rfl 1 rfl rfl ?_
            refine w_cSIR (q := 55) (As := [vR x.2.2.2 v10, .int x1]) (st := []) hx (dc kX11_say_0 27 rfl) (cI _ my_X11_at lm_X11_152 (by decide)) st_X11_at rfl (fun u hu => sX11_at _ _ _ _ _ _ hu) (Nat.zero_le _) rfl (fun v11 => ?_)
            refine j_iload_n (q := 56) hx (dc kX11_say_0 28 rfl) rfl 2 rfl rfl ?_
            refine w_cSIR (q := 59) (As := [.int v11, .int x2]) (st := []) hx (dc kX11_say_0 29 rfl) (cI _ my_X11_has lm_X11_164 (by decide)) st_X11_has rfl (fun u hu => sX11_has _ _ _ _ _ _ hu) (Nat.zero_le _) rfl (fun v13 => ?_)
            refine j_istore (q := 61) (i := 4) (l2 := [(0, vR x.2.2.2 x0), (1, .int x1), (2, .int x2), (3, .int x3)]) hx (dc kX11_say_0 30 rfl) (hn 4 (by decide)) [0, 1, 2, 3] rfl ⟨⟨show (0 : Nat) ≠ 4 by decide, Or.inl (show (0 : Nat) + 1 ≠ 4 by decide)⟩, ⟨⟨show (1 : Nat) ≠ 4 by decide, Or.inl (show (1 : Nat) + 1 ≠ 4 by decide)⟩, ⟨⟨show (2 : Nat) ≠ 4 by decide, Or.inl (show (2 : Nat) + 1 ≠ 4 by decide)⟩, ⟨⟨show (3 : Nat) ≠ 4 by decide, Or.inr rfl⟩, trivial⟩⟩⟩⟩ rfl ?_
            refine j_aload_n (q := 62) hx (dc kX11_say_0 31 rfl) rfl 1 rfl rfl ?_
            refine w_gR (q := 65) hx (dc kX11_say_0 32 rfl) ff_X11_5 lk_X11_43 rfl (fun v15 => ?_)
            refine w_gR (q := 68) hx (dc kX11_say_0 33 rfl) ff_X5_14 lk_X11_201 rfl (fun v16 => ?_)
            refine j_iload_n (q := 69) hx (dc kX11_say_0 34 rfl) rfl 2 rfl rfl ?_
            refine w_cSIR (q := 72) (As := [vR x.2.2.2 v16, .int x1]) (st := []) hx (dc kX11_say_0 35 rfl) (cI _ my_X11_at lm_X11_152 (by decide)) st_X11_at rfl (fun u hu => sX11_at _ _ _ _ _ _ hu) (Nat.zero_le _) rfl (fun v17 => ?_)
            refine j_iload_n (q := 73) hx (dc kX11_say_0 36 rfl) rfl 3 rfl rfl ?_
            refine w_cSIR (q := 76) (As := [.int v17, .int x2]) (st := []) hx (dc kX11_say_0 37 rfl) (cI _ my_X11_has lm_X11_164 (by decide)) st_X11_has rfl (fun u hu => sX11_has _ _ _ _ _ _ hu) (Nat.zero_le _) rfl (fun v19 => ?_)
            refine j_istore (q := 78) (i := 5) (l2 := [(4, .int v13), (0, vR x.2.2.2 x0), (1, .int x1), (2, .int x2), (3, .int x3)]) hx (dc kX11_say_0 38 rfl) (hn 5 (by decide)) [0, 1, 2, 3, 4] rfl ⟨⟨show (4 : Nat) ≠ 5 by decide, Or.inr rfl⟩, ⟨⟨show (0 : Nat) ≠ 5 by decide, Or.inl (show (0 : Nat) + 1 ≠ 5 by decide)⟩, ⟨⟨show (1 : Nat) ≠ 5 by decide, Or.inl (show (1 : Nat) + 1 ≠ 5 by decide)⟩, ⟨⟨show (2 : Nat) ≠ 5 by decide, Or.inl (show (2 : Nat) + 1 ≠ 5 by decide)⟩, ⟨⟨show (3 : Nat) ≠ 5 by decide, Or.inl (show (3 : Nat) + 1 ≠ 5 by decide)⟩, trivial⟩⟩⟩⟩⟩ rfl ?_
            refine j_iload_n (q := 79) hx (dc kX11_say_0 39 rfl) rfl 5 rfl rfl ?_
            refine j_iconst (q := 80) (v := (2 : Int32)) hx (dc kX11_say_0 40 rfl) (by decide) rfl ?_
            refine j_icmp_neS (q := 83) (tgt := 91) hx (dc kX11_say_0 41 rfl) (by decide) rfl ?_ ?_
            · refine j_iload (q := 93) hx (dc kX11_say_0 45 rfl) 1 rfl rfl ?_
              refine j_if_eq (q := 96) (tgt := 114) hx (dc kX11_say_0 46 rfl) (by decide) Iff.rfl rfl ?_ ?_
              · exact j_sub [2, 3, 4, 5] rfl (hb114 x0 x1 x2 x3 h)
              · refine j_iload (q := 98) hx (dc kX11_say_0 47 rfl) 0 rfl rfl ?_
                refine j_iload_n (q := 99) hx (dc kX11_say_0 48 rfl) rfl 5 rfl rfl ?_
                refine j_iconst (q := 100) (v := (1 : Int32)) hx (dc kX11_say_0 49 rfl) (by decide) rfl ?_
                refine j_icmp_neS (q := 103) (tgt := 107) hx (dc kX11_say_0 50 rfl) (by decide) rfl ?_ ?_
                · refine j_iconst (q := 108) (v := (0 : Int32)) hx (dc kX11_say_0 53 rfl) (by decide) rfl ?_
                  exact j_sub [2, 3, 4, 5] rfl (hb108 x0 x1 x2 x3 v19 (0 : Int32) h)
                · refine j_iconst (q := 104) (v := (1 : Int32)) hx (dc kX11_say_0 51 rfl) (by decide) rfl ?_
                  refine j_goto (q := 108) hx (dc kX11_say_0 52 rfl) (by decide) ?_
                  exact j_sub [2, 3, 4, 5] rfl (hb108 x0 x1 x2 x3 v19 (1 : Int32) h)
            · refine j_iload (q := 85) hx (dc kX11_say_0 42 rfl) 1 rfl rfl ?_
              refine j_if_neS (q := 88) (tgt := 114) hx (dc kX11_say_0 43 rfl) (by decide) rfl ?_ ?_
              · exact j_sub [2, 3, 4, 5] rfl (hb114 x0 x1 x2 x3 h)
              · refine j_goto (q := 111) hx (dc kX11_say_0 44 rfl) (by decide) ?_
                refine j_bipush (q := 113) (v := (-3 : Int32)) hx (dc kX11_say_0 55 rfl) (by decide) rfl ?_
                exact r_iW hx hR (dc kX11_say_0 56 rfl)
          · refine j_bipush (q := 43) (v := (-2 : Int32)) hx (dc kX11_say_0 21 rfl) (by decide) rfl ?_
            exact r_iW hx hR (dc kX11_say_0 22 rfl)
        · refine j_iconst (q := 26) (v := (-1 : Int32)) hx (dc kX11_say_0 13 rfl) (by decide) rfl ?_
          exact r_iW hx hR (dc kX11_say_0 14 rfl)

set_option maxHeartbeats 4000000 in
set_option maxRecDepth 100000 in
theorem sX11_add (l : Launch) (w : Wd) (x0 : Nat) (x1 : Int32) (x2 : Int32) (x3 : Int32) (h : Hp) (u : (Int32 × Hp)) (hK : mX11_add x0 x1 x2 x3 h = some u) : M1 l w mi_X11_add 4 [vR w x0, .int x1, .int x2, .int x3] h u.2 (some (.int u.1)) := by
  refine M1.of (own := RX11) (T := fun _ r => r = u) hK (by decide +kernel) rfl (by first | (simp only [lg_lenR, lg_lenI, lg_lenL, lg_len0]; decide) | decide) (fun x hx hnl hhf hl hw hret hnm hQ h0e => ⟨?_, rfl⟩)
  subst hw
  subst hl
  have hR : Rt x h u.2 (some (.int u.1)) ((some .int)) := ⟨h0e, hhf, hret, hQ⟩
  have hn : ∀ i, i < 4 → i < x.2.2.1.1.1 := fun i hi => by rw [hnl]; exact hi
  have e0 : lv_args 0 [vR x.2.2.2 x0, .int x1, .int x2, .int x3] = [(0, vR x.2.2.2 x0), (1, .int x1), (2, .int x2), (3, .int x3)] := by simp only [lv_argsR, lv_argsI, lv_argsL, lv_args0]
  rw [e0]
  unfold mX11_add
  refine J.ckd fun hck => ?_
  refine j_aload_n (q := 1) hx (dc kX11_add_0 0 rfl) rfl 0 rfl rfl ?_
  refine j_iload_n (q := 2) hx (dc kX11_add_0 1 rfl) rfl 1 rfl rfl ?_
  refine w_cVIR (q := 5) (As := [.int x1]) (st := []) hx (dc kX11_add_0 2 rfl) cf11 (by decide) rfl (cI _ my_X11_isCount lm_X11_174 (by decide)) vs_X11_isCount rfl (fun u hu => sX11_isCount _ _ _ _ _ _ hu) (fun e => ite_ne (by unfold mX11_isCount at e; exact e)) (Nat.zero_le _) rfl (fun v1 => ?_)
  refine j_if_eq (q := 8) (tgt := 30) hx (dc kX11_add_0 3 rfl) (by decide) Iff.rfl rfl ?_ ?_
  · refine j_iconst (q := 31) (v := (-1 : Int32)) hx (dc kX11_add_0 14 rfl) (by decide) rfl ?_
    exact r_iW hx hR (dc kX11_add_0 15 rfl)
  · refine j_iload_n (q := 9) hx (dc kX11_add_0 4 rfl) rfl 2 rfl rfl ?_
    refine j_if_lt (q := 12) (tgt := 30) hx (dc kX11_add_0 5 rfl) (by decide) Iff.rfl rfl ?_ ?_
    · refine j_iconst (q := 31) (v := (-1 : Int32)) hx (dc kX11_add_0 14 rfl) (by decide) rfl ?_
      exact r_iW hx hR (dc kX11_add_0 15 rfl)
    · refine j_iload_n (q := 13) hx (dc kX11_add_0 6 rfl) rfl 2 rfl rfl ?_
      refine j_sipush (q := 16) (v := (999 : Int32)) hx (dc kX11_add_0 7 rfl) (by decide) rfl ?_
      refine j_icmp_gt (q := 19) (tgt := 30) hx (dc kX11_add_0 8 rfl) (by decide) Iff.rfl rfl ?_ ?_
      · refine j_iconst (q := 31) (v := (-1 : Int32)) hx (dc kX11_add_0 14 rfl) (by decide) rfl ?_
        exact r_iW hx hR (dc kX11_add_0 15 rfl)
      · refine j_iload_n (q := 20) hx (dc kX11_add_0 9 rfl) rfl 3 rfl rfl ?_
        refine j_if_lt (q := 23) (tgt := 30) hx (dc kX11_add_0 10 rfl) (by decide) Iff.rfl rfl ?_ ?_
        · refine j_iconst (q := 31) (v := (-1 : Int32)) hx (dc kX11_add_0 14 rfl) (by decide) rfl ?_
          exact r_iW hx hR (dc kX11_add_0 15 rfl)
        · refine j_iload_n (q := 24) hx (dc kX11_add_0 11 rfl) rfl 3 rfl rfl ?_
          refine j_sipush (q := 27) (v := (999 : Int32)) hx (dc kX11_add_0 12 rfl) (by decide) rfl ?_
          refine j_icmp_leS (q := 30) (tgt := 32) hx (dc kX11_add_0 13 rfl) (by decide) rfl ?_ ?_
          · refine j_aload_n (q := 33) hx (dc kX11_add_0 16 rfl) rfl 0 rfl rfl ?_
            refine w_gR (q := 36) hx (dc kX11_add_0 17 rfl) ff_X11_5 lk_X11_43 rfl (fun v3 => ?_)
            refine w_gI (q := 39) hx (dc kX11_add_0 18 rfl) ff_X5_2 lk_X11_264 rfl (fun v4 => ?_)
            refine j_bipush (q := 41) (v := (8 : Int32)) hx (dc kX11_add_0 19 rfl) (by decide) rfl ?_
            refine j_icmp_lt (q := 44) (tgt := 47) hx (dc kX11_add_0 20 rfl) (by decide) Iff.rfl rfl ?_ ?_
            · refine j_aload_n (q := 48) hx (dc kX11_add_0 23 rfl) rfl 0 rfl rfl ?_
              refine w_gR (q := 51) hx (dc kX11_add_0 24 rfl) ff_X11_8 lk_X11_62 rfl (fun v5 => ?_)
              refine j_aload_n (q := 52) hx (dc kX11_add_0 25 rfl) rfl 0 rfl rfl ?_
              refine w_gR (q := 55) hx (dc kX11_add_0 26 rfl) ff_X11_5 lk_X11_43 rfl (fun v6 => ?_)
              refine w_cVVW (q := 58) (As := [vR x.2.2.2 v6]) (st := []) hx (dc kX11_add_0 27 rfl) cf0 (by decide) rfl (cI _ my_X0_note lm_X11_232 (by decide)) vs_X0_note rfl (fun u hu => sX0_note _ _ _ _ _ _ hu) (fun e => ite_ne (by unfold mX0_note at e; exact e)) (Nat.zero_le _) rfl (fun h8 => ?_)
              refine j_aload_n (q := 59) hx (dc kX11_add_0 28 rfl) rfl 0 rfl rfl ?_
              refine w_gR (q := 62) hx (dc kX11_add_0 29 rfl) ff_X11_5 lk_X11_43 rfl (fun v9 => ?_)
              refine j_aload_n (q := 63) hx (dc kX11_add_0 30 rfl) rfl 0 rfl rfl ?_
              refine j_iload_n (q := 64) hx (dc kX11_add_0 31 rfl) rfl 1 rfl rfl ?_
              refine w_cVIR (q := 67) (As := [.int x1]) (st := [vR x.2.2.2 v9]) hx (dc kX11_add_0 32 rfl) cf11 (by decide) rfl (cI _ my_X11_kind lm_X11_192 (by decide)) vs_X11_kind rfl (fun u hu => sX11_kind _ _ _ _ _ _ hu) (fun e => ite_ne (by unfold mX11_kind at e; exact e)) (sum_le (sum_R sum_nil) (by decide)) rfl (fun v10 => ?_)
              refine j_iload_n (q := 68) hx (dc kX11_add_0 33 rfl) rfl 2 rfl rfl ?_
              refine j_iload_n (q := 69) hx (dc kX11_add_0 34 rfl) rfl 3 rfl rfl ?_
              refine w_cVIW (q := 72) (As := [.int v10, .int x2, .int x3]) (st := []) hx (dc kX11_add_0 35 rfl) cf5 (by decide) rfl (cI _ my_X5_file lm_X11_267 (by decide)) vs_X5_file rfl (fun u hu => sX5_file _ _ _ _ _ _ _ _ hu) (fun e => ite_ne (by unfold mX5_file at e; exact e)) (Nat.zero_le _) rfl (fun v12 h13 => ?_)
              exact r_iW hx hR (dc kX11_add_0 36 rfl)
            · refine j_bipush (q := 46) (v := (-2 : Int32)) hx (dc kX11_add_0 21 rfl) (by decide) rfl ?_
              exact r_iW hx hR (dc kX11_add_0 22 rfl)
          · refine j_iconst (q := 31) (v := (-1 : Int32)) hx (dc kX11_add_0 14 rfl) (by decide) rfl ?_
            exact r_iW hx hR (dc kX11_add_0 15 rfl)

set_option maxHeartbeats 4000000 in
set_option maxRecDepth 100000 in
theorem sX11_strike (l : Launch) (w : Wd) (x0 : Nat) (x1 : Int32) (h : Hp) (u : (Int32 × Hp)) (hK : mX11_strike x0 x1 h = some u) : M1 l w mi_X11_strike 4 [vR w x0, .int x1] h u.2 (some (.int u.1)) := by
  refine M1.of (own := RX11) (T := fun _ r => r = u) hK (by decide +kernel) rfl (by first | (simp only [lg_lenR, lg_lenI, lg_lenL, lg_len0]; decide) | decide) (fun x hx hnl hhf hl hw hret hnm hQ h0e => ⟨?_, rfl⟩)
  subst hw
  subst hl
  have hR : Rt x h u.2 (some (.int u.1)) ((some .int)) := ⟨h0e, hhf, hret, hQ⟩
  have hn : ∀ i, i < 2 → i < x.2.2.1.1.1 := fun i hi => by rw [hnl]; exact hi
  have e0 : lv_args 0 [vR x.2.2.2 x0, .int x1] = [(0, vR x.2.2.2 x0), (1, .int x1)] := by simp only [lv_argsR, lv_argsI, lv_argsL, lv_args0]
  rw [e0]
  unfold mX11_strike
  refine J.ckd fun hck => ?_
  refine j_aload_n (q := 1) hx (dc kX11_strike_0 0 rfl) rfl 0 rfl rfl ?_
  refine j_iload_n (q := 2) hx (dc kX11_strike_0 1 rfl) rfl 1 rfl rfl ?_
  refine w_cVIR (q := 5) (As := [.int x1]) (st := []) hx (dc kX11_strike_0 2 rfl) cf11 (by decide) rfl (cI _ my_X11_isCount lm_X11_174 (by decide)) vs_X11_isCount rfl (fun u hu => sX11_isCount _ _ _ _ _ _ hu) (fun e => ite_ne (by unfold mX11_isCount at e; exact e)) (Nat.zero_le _) rfl (fun v1 => ?_)
  refine j_if_neS (q := 8) (tgt := 10) hx (dc kX11_strike_0 3 rfl) (by decide) rfl ?_ ?_
  · refine j_aload_n (q := 11) hx (dc kX11_strike_0 6 rfl) rfl 0 rfl rfl ?_
    refine w_gR (q := 14) hx (dc kX11_strike_0 7 rfl) ff_X11_5 lk_X11_43 rfl (fun v3 => ?_)
    refine w_gI (q := 17) hx (dc kX11_strike_0 8 rfl) ff_X5_3 lk_X11_257 rfl (fun v4 => ?_)
    refine j_iload_n (q := 18) hx (dc kX11_strike_0 9 rfl) rfl 1 rfl rfl ?_
    refine w_cSIR (q := 21) (As := [.int v4, .int x1]) (st := []) hx (dc kX11_strike_0 10 rfl) (cI _ my_X11_has lm_X11_164 (by decide)) st_X11_has rfl (fun u hu => sX11_has _ _ _ _ _ _ hu) (Nat.zero_le _) rfl (fun v5 => ?_)
    refine j_if_eq (q := 24) (tgt := 27) hx (dc kX11_strike_0 11 rfl) (by decide) Iff.rfl rfl ?_ ?_
    · refine j_aload_n (q := 28) hx (dc kX11_strike_0 14 rfl) rfl 0 rfl rfl ?_
      refine w_gR (q := 31) hx (dc kX11_strike_0 15 rfl) ff_X11_8 lk_X11_62 rfl (fun v7 => ?_)
      refine j_aload_n (q := 32) hx (dc kX11_strike_0 16 rfl) rfl 0 rfl rfl ?_
      refine w_gR (q := 35) hx (dc kX11_strike_0 17 rfl) ff_X11_5 lk_X11_43 rfl (fun v8 => ?_)
      refine w_cVVW (q := 38) (As := [vR x.2.2.2 v8]) (st := []) hx (dc kX11_strike_0 18 rfl) cf0 (by decide) rfl (cI _ my_X0_note lm_X11_232 (by decide)) vs_X0_note rfl (fun u hu => sX0_note _ _ _ _ _ _ hu) (fun e => ite_ne (by unfold mX0_note at e; exact e)) (Nat.zero_le _) rfl (fun h10 => ?_)
      refine j_aload_n (q := 39) hx (dc kX11_strike_0 19 rfl) rfl 0 rfl rfl ?_
      refine w_gR (q := 42) hx (dc kX11_strike_0 20 rfl) ff_X11_5 lk_X11_43 rfl (fun v11 => ?_)
      refine j_dup (q := 43) hx (dc kX11_strike_0 21 rfl) (vR_cat _ _) rfl ?_
      refine w_gI (q := 46) hx (dc kX11_strike_0 22 rfl) ff_X5_3 lk_X11_257 rfl (fun v12 => ?_)
      refine j_iconst (q := 47) (v := (1 : Int32)) hx (dc kX11_strike_0 23 rfl) (by decide) rfl ?_
      refine j_iload_n (q := 48) hx (dc kX11_strike_0 24 rfl) rfl 1 rfl rfl ?_
      refine j_ishl (q := 49) hx (dc kX11_strike_0 25 rfl) rfl ?_
      refine j_ior (q := 50) hx (dc kX11_strike_0 26 rfl) rfl ?_
      refine w_sI (q := 53) hx (dc kX11_strike_0 27 rfl) ff_X5_3 rfl lk_X11_257 (Or.inl rfl) rfl (fun h13 => ?_)
      refine j_aload_n (q := 54) hx (dc kX11_strike_0 28 rfl) rfl 0 rfl rfl ?_
      refine w_gR (q := 57) hx (dc kX11_strike_0 29 rfl) ff_X11_5 lk_X11_43 rfl (fun v14 => ?_)
      refine w_gI (q := 60) hx (dc kX11_strike_0 30 rfl) ff_X5_2 lk_X11_264 rfl (fun v15 => ?_)
      refine j_aload_n (q := 61) hx (dc kX11_strike_0 31 rfl) rfl 0 rfl rfl ?_
      refine w_gR (q := 64) hx (dc kX11_strike_0 32 rfl) ff_X11_5 lk_X11_43 rfl (fun v16 => ?_)
      refine w_gI (q := 67) hx (dc kX11_strike_0 33 rfl) ff_X5_3 lk_X11_257 rfl (fun v17 => ?_)
      refine w_cSIR (q := 70) (As := [.int v17]) (st := [.int v15]) hx (dc kX11_strike_0 34 rfl) (cI _ my_J6_bitCount_0f7a4 lm_X11_252 (by decide)) st_J6_bitCount_0f7a4 rfl (fun u hu => sJ6_bitCount_0f7a4 _ _ _ _ _ hu) (sum_le (sum_I sum_nil) (by decide)) rfl (fun v18 => ?_)
      refine j_isub (q := 71) hx (dc kX11_strike_0 35 rfl) rfl ?_
      exact r_iW hx hR (dc kX11_strike_0 36 rfl)
    · refine j_bipush (q := 26) (v := (-2 : Int32)) hx (dc kX11_strike_0 12 rfl) (by decide) rfl ?_
      exact r_iW hx hR (dc kX11_strike_0 13 rfl)
  · refine j_iconst (q := 9) (v := (-1 : Int32)) hx (dc kX11_strike_0 4 rfl) (by decide) rfl ?_
    exact r_iW hx hR (dc kX11_strike_0 5 rfl)

set_option maxHeartbeats 4000000 in
set_option maxRecDepth 100000 in
theorem sX11_days (l : Launch) (w : Wd) (x0 : Nat) (x1 : Int32) (h : Hp) (u : (Int32 × Hp)) (hK : mX11_days x0 x1 h = some u) : M1 l w mi_X11_days 4 [vR w x0, .int x1] h u.2 (some (.int u.1)) := by
  refine M1.of (own := RX11) (T := fun _ r => r = u) hK (by decide +kernel) rfl (by first | (simp only [lg_lenR, lg_lenI, lg_lenL, lg_len0]; decide) | decide) (fun x hx hnl hhf hl hw hret hnm hQ h0e => ⟨?_, rfl⟩)
  subst hw
  subst hl
  have hR : Rt x h u.2 (some (.int u.1)) ((some .int)) := ⟨h0e, hhf, hret, hQ⟩
  have hn : ∀ i, i < 2 → i < x.2.2.1.1.1 := fun i hi => by rw [hnl]; exact hi
  have e0 : lv_args 0 [vR x.2.2.2 x0, .int x1] = [(0, vR x.2.2.2 x0), (1, .int x1)] := by simp only [lv_argsR, lv_argsI, lv_argsL, lv_args0]
  rw [e0]
  unfold mX11_days
  refine J.ckd fun hck => ?_
  refine j_iload_n (q := 1) hx (dc kX11_days_0 0 rfl) rfl 1 rfl rfl ?_
  refine j_iconst (q := 2) (v := (1 : Int32)) hx (dc kX11_days_0 1 rfl) (by decide) rfl ?_
  refine j_icmp_lt (q := 5) (tgt := 12) hx (dc kX11_days_0 2 rfl) (by decide) Iff.rfl rfl ?_ ?_
  · refine j_iconst (q := 13) (v := (-1 : Int32)) hx (dc kX11_days_0 6 rfl) (by decide) rfl ?_
    exact r_iW hx hR (dc kX11_days_0 7 rfl)
  · refine j_iload_n (q := 6) hx (dc kX11_days_0 3 rfl) rfl 1 rfl rfl ?_
    refine j_sipush (q := 9) (v := (999 : Int32)) hx (dc kX11_days_0 4 rfl) (by decide) rfl ?_
    refine j_icmp_leS (q := 12) (tgt := 14) hx (dc kX11_days_0 5 rfl) (by decide) rfl ?_ ?_
    · refine j_aload_n (q := 15) hx (dc kX11_days_0 8 rfl) rfl 0 rfl rfl ?_
      refine w_gR (q := 18) hx (dc kX11_days_0 9 rfl) ff_X11_5 lk_X11_43 rfl (fun v1 => ?_)
      refine w_gI (q := 21) hx (dc kX11_days_0 10 rfl) ff_X5_0 lk_X11_270 rfl (fun v2 => ?_)
      refine j_iload_n (q := 22) hx (dc kX11_days_0 11 rfl) rfl 1 rfl rfl ?_
      refine j_iadd (q := 23) hx (dc kX11_days_0 12 rfl) rfl ?_
      refine j_sipush (q := 26) (v := (9999 : Int32)) hx (dc kX11_days_0 13 rfl) (by decide) rfl ?_
      refine j_icmp_leS (q := 29) (tgt := 32) hx (dc kX11_days_0 14 rfl) (by decide) rfl ?_ ?_
      · refine j_aload_n (q := 33) hx (dc kX11_days_0 17 rfl) rfl 0 rfl rfl ?_
        refine w_gR (q := 36) hx (dc kX11_days_0 18 rfl) ff_X11_8 lk_X11_62 rfl (fun v3 => ?_)
        refine j_aload_n (q := 37) hx (dc kX11_days_0 19 rfl) rfl 0 rfl rfl ?_
        refine w_gR (q := 40) hx (dc kX11_days_0 20 rfl) ff_X11_5 lk_X11_43 rfl (fun v4 => ?_)
        refine w_cVVW (q := 43) (As := [vR x.2.2.2 v4]) (st := []) hx (dc kX11_days_0 21 rfl) cf0 (by decide) rfl (cI _ my_X0_note lm_X11_232 (by decide)) vs_X0_note rfl (fun u hu => sX0_note _ _ _ _ _ _ hu) (fun e => ite_ne (by unfold mX0_note at e; exact e)) (Nat.zero_le _) rfl (fun h6 => ?_)
        refine j_aload_n (q := 44) hx (dc kX11_days_0 22 rfl) rfl 0 rfl rfl ?_
        refine w_gR (q := 47) hx (dc kX11_days_0 23 rfl) ff_X11_5 lk_X11_43 rfl (fun v7 => ?_)
        refine j_dup (q := 48) hx (dc kX11_days_0 24 rfl) (vR_cat _ _) rfl ?_
        refine w_gI (q := 51) hx (dc kX11_days_0 25 rfl) ff_X5_0 lk_X11_270 rfl (fun v8 => ?_)
        refine j_iload_n (q := 52) hx (dc kX11_days_0 26 rfl) rfl 1 rfl rfl ?_
        refine j_iadd (q := 53) hx (dc kX11_days_0 27 rfl) rfl ?_
        refine w_sI (q := 56) hx (dc kX11_days_0 28 rfl) ff_X5_0 rfl lk_X11_270 (Or.inl rfl) rfl (fun h9 => ?_)
        refine j_aload_n (q := 57) hx (dc kX11_days_0 29 rfl) rfl 0 rfl rfl ?_
        refine w_gR (q := 60) hx (dc kX11_days_0 30 rfl) ff_X11_5 lk_X11_43 rfl (fun v10 => ?_)
        refine w_gI (q := 63) hx (dc kX11_days_0 31 rfl) ff_X5_0 lk_X11_270 rfl (fun v11 => ?_)
        exact r_iW hx hR (dc kX11_days_0 32 rfl)
      · refine j_bipush (q := 31) (v := (-2 : Int32)) hx (dc kX11_days_0 15 rfl) (by decide) rfl ?_
        exact r_iW hx hR (dc kX11_days_0 16 rfl)
    · refine j_iconst (q := 13) (v := (-1 : Int32)) hx (dc kX11_days_0 6 rfl) (by decide) rfl ?_
      exact r_iW hx hR (dc kX11_days_0 7 rfl)

set_option maxHeartbeats 4000000 in
set_option maxRecDepth 100000 in
theorem sX11_undo (l : Launch) (w : Wd) (x0 : Nat) (h : Hp) (u : (Int32 × Hp)) (hK : mX11_undo x0 h = some u) : M1 l w mi_X11_undo 4 [vR w x0] h u.2 (some (.int u.1)) := by
  refine M1.of (own := RX11) (T := fun _ r => r = u) hK (by decide +kernel) rfl (by first | (simp only [lg_lenR, lg_lenI, lg_lenL, lg_len0]; decide) | decide) (fun x hx hnl hhf hl hw hret hnm hQ h0e => ⟨?_, rfl⟩)
  subst hw
  subst hl
  have hR : Rt x h u.2 (some (.int u.1)) ((some .int)) := ⟨h0e, hhf, hret, hQ⟩
  have hn : ∀ i, i < 1 → i < x.2.2.1.1.1 := fun i hi => by rw [hnl]; exact hi
  have e0 : lv_args 0 [vR x.2.2.2 x0] = [(0, vR x.2.2.2 x0)] := by simp only [lv_argsR, lv_argsI, lv_argsL, lv_args0]
  rw [e0]
  unfold mX11_undo
  refine J.ckd fun hck => ?_
  refine j_aload_n (q := 1) hx (dc kX11_undo_0 0 rfl) rfl 0 rfl rfl ?_
  refine w_gR (q := 4) hx (dc kX11_undo_0 1 rfl) ff_X11_8 lk_X11_62 rfl (fun v1 => ?_)
  refine j_aload_n (q := 5) hx (dc kX11_undo_0 2 rfl) rfl 0 rfl rfl ?_
  refine w_gR (q := 8) hx (dc kX11_undo_0 3 rfl) ff_X11_5 lk_X11_43 rfl (fun v2 => ?_)
  refine w_cVIW (q := 11) (As := [vR x.2.2.2 v2]) (st := []) hx (dc kX11_undo_0 4 rfl) cf0 (by decide) rfl (cI _ my_X0_takeBack lm_X11_273 (by decide)) vs_X0_takeBack rfl (fun u hu => sX0_takeBack _ _ _ _ _ _ hu) (fun e => ite_ne (by unfold mX0_takeBack at e; exact e)) (Nat.zero_le _) rfl (fun v3 h4 => ?_)
  refine j_if_eq (q := 14) (tgt := 24) hx (dc kX11_undo_0 5 rfl) (by decide) Iff.rfl rfl ?_ ?_
  · refine j_iconst (q := 25) (v := (-1 : Int32)) hx (dc kX11_undo_0 10 rfl) (by decide) rfl ?_
    exact r_iW hx hR (dc kX11_undo_0 11 rfl)
  · refine j_aload_n (q := 15) hx (dc kX11_undo_0 6 rfl) rfl 0 rfl rfl ?_
    refine w_gR (q := 18) hx (dc kX11_undo_0 7 rfl) ff_X11_8 lk_X11_62 rfl (fun v5 => ?_)
    refine w_gI (q := 21) hx (dc kX11_undo_0 8 rfl) ff_X0_4 lk_X11_277 rfl (fun v6 => ?_)
    refine j_goto (q := 25) hx (dc kX11_undo_0 9 rfl) (by decide) ?_
    exact r_iW hx hR (dc kX11_undo_0 11 rfl)

set_option maxHeartbeats 4000000 in
set_option maxRecDepth 100000 in
theorem sX11_keep (l : Launch) (w : Wd) (x0 : Nat) (x1 : Int32) (h : Hp) (u : (Int32 × Hp)) (hK : mX11_keep x0 x1 h = some u) : M1 l w mi_X11_keep 4 [vR w x0, .int x1] h u.2 (some (.int u.1)) := by
  refine M1.of (own := RX11) (T := fun _ r => r = u) hK (by decide +kernel) rfl (by first | (simp only [lg_lenR, lg_lenI, lg_lenL, lg_len0]; decide) | decide) (fun x hx hnl hhf hl hw hret hnm hQ h0e => ⟨?_, rfl⟩)
  subst hw
  subst hl
  have hR : Rt x h u.2 (some (.int u.1)) ((some .boolean)) := ⟨h0e, hhf, hret, hQ⟩
  have hn : ∀ i, i < 2 → i < x.2.2.1.1.1 := fun i hi => by rw [hnl]; exact hi
  have e0 : lv_args 0 [vR x.2.2.2 x0, .int x1] = [(0, vR x.2.2.2 x0), (1, .int x1)] := by simp only [lv_argsR, lv_argsI, lv_argsL, lv_args0]
  rw [e0]
  unfold mX11_keep
  refine J.ckd fun hck => ?_
  refine j_aload_n (q := 1) hx (dc kX11_keep_0 0 rfl) rfl 0 rfl rfl ?_
  refine w_gR (q := 4) hx (dc kX11_keep_0 1 rfl) ff_X11_8 lk_X11_62 rfl (fun v1 => ?_)
  refine j_iload_n (q := 5) hx (dc kX11_keep_0 2 rfl) rfl 1 rfl rfl ?_
  refine j_aload_n (q := 6) hx (dc kX11_keep_0 3 rfl) rfl 0 rfl rfl ?_
  refine w_gR (q := 9) hx (dc kX11_keep_0 4 rfl) ff_X11_5 lk_X11_43 rfl (fun v2 => ?_)
  refine w_cVIW (q := 12) (As := [.int x1, vR x.2.2.2 v2]) (st := []) hx (dc kX11_keep_0 5 rfl) cf0 (by decide) rfl (cI _ my_X0_store lm_X11_280 (by decide)) vs_X0_store rfl (fun u hu => sX0_store _ _ _ _ _ _ _ hu) (fun e => ite_ne (by unfold mX0_store at e; exact e)) (Nat.zero_le _) rfl (fun v3 h4 => ?_)
  exact r_zW hx hR (dc kX11_keep_0 6 rfl)

set_option maxHeartbeats 4000000 in
set_option maxRecDepth 100000 in
theorem sX11_again (l : Launch) (w : Wd) (x0 : Nat) (x1 : Int32) (h : Hp) (u : (Int32 × Hp)) (hK : mX11_again x0 x1 h = some u) : M1 l w mi_X11_again 5 [vR w x0, .int x1] h u.2 (some (.int u.1)) := by
  refine M1.of (own := RX11) (T := fun _ r => r = u) hK (by decide +kernel) rfl (by first | (simp only [lg_lenR, lg_lenI, lg_lenL, lg_len0]; decide) | decide) (fun x hx hnl hhf hl hw hret hnm hQ h0e => ⟨?_, rfl⟩)
  subst hw
  subst hl
  have hR : Rt x h u.2 (some (.int u.1)) ((some .boolean)) := ⟨h0e, hhf, hret, hQ⟩
  have hn : ∀ i, i < 2 → i < x.2.2.1.1.1 := fun i hi => by rw [hnl]; exact hi
  have e0 : lv_args 0 [vR x.2.2.2 x0, .int x1] = [(0, vR x.2.2.2 x0), (1, .int x1)] := by simp only [lv_argsR, lv_argsI, lv_argsL, lv_args0]
  rw [e0]
  unfold mX11_again
  refine J.ckd fun hck => ?_
  refine j_aload_n (q := 1) hx (dc kX11_again_0 0 rfl) rfl 0 rfl rfl ?_
  refine w_gR (q := 4) hx (dc kX11_again_0 1 rfl) ff_X11_8 lk_X11_62 rfl (fun v1 => ?_)
  refine j_iload_n (q := 5) hx (dc kX11_again_0 2 rfl) rfl 1 rfl rfl ?_
  refine j_aload_n (q := 6) hx (dc kX11_again_0 3 rfl) rfl 0 rfl rfl ?_
  refine w_gR (q := 9) hx (dc kX11_again_0 4 rfl) ff_X11_5 lk_X11_43 rfl (fun v2 => ?_)
  refine w_cVIW (q := 12) (As := [.int x1, vR x.2.2.2 v2]) (st := []) hx (dc kX11_again_0 5 rfl) cf0 (by decide) rfl (cI _ my_X0_restore lm_X11_284 (by decide)) vs_X0_restore rfl (fun u hu => sX0_restore _ _ _ _ _ _ _ hu) (fun e => ite_ne (by unfold mX0_restore at e; exact e)) (Nat.zero_le _) rfl (fun v3 h4 => ?_)
  exact r_zW hx hR (dc kX11_again_0 6 rfl)

set_option maxHeartbeats 4000000 in
set_option maxRecDepth 100000 in
theorem sX11_worlds (l : Launch) (w : Wd) (x0 : Nat) (x1 : Int32) (h : Hp) (u : (Int32 × Hp)) (hK : mX11_worlds x0 x1 h = some u) : M1 l w mi_X11_worlds 4 [vR w x0, .int x1] h u.2 (some (.int u.1)) := by
  refine M1.of (own := RX11) (T := fun _ r => r = u) hK (by decide +kernel) rfl (by first | (simp only [lg_lenR, lg_lenI, lg_lenL, lg_len0]; decide) | decide) (fun x hx hnl hhf hl hw hret hnm hQ h0e => ⟨?_, rfl⟩)
  subst hw
  subst hl
  have hR : Rt x h u.2 (some (.int u.1)) ((some .int)) := ⟨h0e, hhf, hret, hQ⟩
  have hn : ∀ i, i < 2 → i < x.2.2.1.1.1 := fun i hi => by rw [hnl]; exact hi
  have e0 : lv_args 0 [vR x.2.2.2 x0, .int x1] = [(0, vR x.2.2.2 x0), (1, .int x1)] := by simp only [lv_argsR, lv_argsI, lv_argsL, lv_args0]
  rw [e0]
  unfold mX11_worlds
  refine J.ckd fun hck => ?_
  refine j_iload_n (q := 1) hx (dc kX11_worlds_0 0 rfl) rfl 1 rfl rfl ?_
  refine j_lsw hx (dc kX11_worlds_0 1 rfl) (by decide) ⟨rfl, ⟨28, by decide, ?_⟩, ⟨rfl, ⟨39, by decide, ?_⟩, ⟨51, by decide, ?_⟩⟩⟩
  · refine j_aload_n (q := 29) hx (dc kX11_worlds_0 2 rfl) rfl 0 rfl rfl ?_
    refine w_gR (q := 32) hx (dc kX11_worlds_0 3 rfl) ff_X11_3 lk_X11_33 rfl (fun v1 => ?_)
    refine w_gR (q := 35) hx (dc kX11_worlds_0 4 rfl) ff_X1_17 lk_X11_287 rfl (fun v2 => ?_)
    refine w_cVIR (q := 38) (As := []) (st := []) hx (dc kX11_worlds_0 5 rfl) cf10 (by decide) rfl (cI _ my_X10_size lm_X11_290 (by decide)) vs_X10_size rfl (fun u hu => sX10_size _ _ _ _ _ hu) (fun e => ite_ne (by unfold mX10_size at e; exact e)) (Nat.zero_le _) rfl (fun v3 => ?_)
    exact r_iW hx hR (dc kX11_worlds_0 6 rfl)
  · refine j_aload_n (q := 40) hx (dc kX11_worlds_0 7 rfl) rfl 0 rfl rfl ?_
    refine w_cVVW (q := 43) (As := []) (st := []) hx (dc kX11_worlds_0 8 rfl) cf11 (by decide) rfl (cI _ my_X11_remember lm_X11_204 (by decide)) vs_X11_remember rfl (fun u hu => sX11_remember _ _ _ _ _ hu) (fun e => ite_ne (by unfold mX11_remember at e; exact e)) (Nat.zero_le _) rfl (fun h6 => ?_)
    refine j_aload_n (q := 44) hx (dc kX11_worlds_0 9 rfl) rfl 0 rfl rfl ?_
    refine w_gR (q := 47) hx (dc kX11_worlds_0 10 rfl) ff_X11_9 lk_X11_69 rfl (fun v7 => ?_)
    refine w_cVIR (q := 50) (As := []) (st := []) hx (dc kX11_worlds_0 11 rfl) cf10 (by decide) rfl (cI _ my_X10_size lm_X11_290 (by decide)) vs_X10_size rfl (fun u hu => sX10_size _ _ _ _ _ hu) (fun e => ite_ne (by unfold mX10_size at e; exact e)) (Nat.zero_le _) rfl (fun v8 => ?_)
    exact r_iW hx hR (dc kX11_worlds_0 12 rfl)
  · refine j_iconst (q := 52) (v := (-1 : Int32)) hx (dc kX11_worlds_0 13 rfl) (by decide) rfl ?_
    exact r_iW hx hR (dc kX11_worlds_0 14 rfl)

set_option maxHeartbeats 4000000 in
set_option maxRecDepth 100000 in
theorem sX11_clash (l : Launch) (w : Wd) (x0 : Nat) (x1 : Int32) (x2 : Int32) (h : Hp) (u : (Int32 × Hp)) (hK : mX11_clash x0 x1 x2 h = some u) : M1 l w mi_X11_clash 4 [vR w x0, .int x1, .int x2] h u.2 (some (.int u.1)) := by
  refine M1.of (own := RX11) (T := fun _ r => r = u) hK (by decide +kernel) rfl (by first | (simp only [lg_lenR, lg_lenI, lg_lenL, lg_len0]; decide) | decide) (fun x hx hnl hhf hl hw hret hnm hQ h0e => ⟨?_, rfl⟩)
  subst hw
  subst hl
  have hR : Rt x h u.2 (some (.int u.1)) ((some .int)) := ⟨h0e, hhf, hret, hQ⟩
  have hn : ∀ i, i < 3 → i < x.2.2.1.1.1 := fun i hi => by rw [hnl]; exact hi
  have e0 : lv_args 0 [vR x.2.2.2 x0, .int x1, .int x2] = [(0, vR x.2.2.2 x0), (1, .int x1), (2, .int x2)] := by simp only [lv_argsR, lv_argsI, lv_argsL, lv_args0]
  rw [e0]
  unfold mX11_clash
  refine J.ckd fun hck => ?_
  refine j_aload_n (q := 1) hx (dc kX11_clash_0 0 rfl) rfl 0 rfl rfl ?_
  refine j_iload_n (q := 2) hx (dc kX11_clash_0 1 rfl) rfl 1 rfl rfl ?_
  refine w_cVIR (q := 5) (As := [.int x1]) (st := []) hx (dc kX11_clash_0 2 rfl) cf11 (by decide) rfl (cI _ my_X11_isCount lm_X11_174 (by decide)) vs_X11_isCount rfl (fun u hu => sX11_isCount _ _ _ _ _ _ hu) (fun e => ite_ne (by unfold mX11_isCount at e; exact e)) (Nat.zero_le _) rfl (fun v1 => ?_)
  refine j_if_eq (q := 8) (tgt := 16) hx (dc kX11_clash_0 3 rfl) (by decide) Iff.rfl rfl ?_ ?_
  · refine j_iconst (q := 17) (v := (-1 : Int32)) hx (dc kX11_clash_0 8 rfl) (by decide) rfl ?_
    exact r_iW hx hR (dc kX11_clash_0 9 rfl)
  · refine j_aload_n (q := 9) hx (dc kX11_clash_0 4 rfl) rfl 0 rfl rfl ?_
    refine j_iload_n (q := 10) hx (dc kX11_clash_0 5 rfl) rfl 2 rfl rfl ?_
    refine w_cVIR (q := 13) (As := [.int x2]) (st := []) hx (dc kX11_clash_0 6 rfl) cf11 (by decide) rfl (cI _ my_X11_isCount lm_X11_174 (by decide)) vs_X11_isCount rfl (fun u hu => sX11_isCount _ _ _ _ _ _ hu) (fun e => ite_ne (by unfold mX11_isCount at e; exact e)) (Nat.zero_le _) rfl (fun v3 => ?_)
    refine j_if_neS (q := 16) (tgt := 18) hx (dc kX11_clash_0 7 rfl) (by decide) rfl ?_ ?_
    · refine j_aload_n (q := 19) hx (dc kX11_clash_0 10 rfl) rfl 0 rfl rfl ?_
      refine j_iload_n (q := 20) hx (dc kX11_clash_0 11 rfl) rfl 1 rfl rfl ?_
      refine w_cVVW (q := 23) (As := [.int x1]) (st := []) hx (dc kX11_clash_0 12 rfl) cf11 (by decide) rfl (cI _ my_X11_allege lm_X11_292 (by decide)) vs_X11_allege rfl (fun u hu => sX11_allege _ _ _ _ _ _ hu) (fun e => ite_ne (by unfold mX11_allege at e; exact e)) (Nat.zero_le _) rfl (fun h6 => ?_)
      refine j_aload_n (q := 24) hx (dc kX11_clash_0 13 rfl) rfl 0 rfl rfl ?_
      refine w_gR (q := 27) hx (dc kX11_clash_0 14 rfl) ff_X11_10 lk_X11_73 rfl (fun v7 => ?_)
      refine j_aload_n (q := 28) hx (dc kX11_clash_0 15 rfl) rfl 0 rfl rfl ?_
      refine w_gR (q := 31) hx (dc kX11_clash_0 16 rfl) ff_X11_5 lk_X11_43 rfl (fun v8 => ?_)
      refine w_gR (q := 34) hx (dc kX11_clash_0 17 rfl) ff_X5_13 lk_X11_198 rfl (fun v9 => ?_)
      refine j_iload_n (q := 35) hx (dc kX11_clash_0 18 rfl) rfl 2 rfl rfl ?_
      refine w_cSIR (q := 38) (As := [vR x.2.2.2 v9, .int x2]) (st := [vR x.2.2.2 v7]) hx (dc kX11_clash_0 19 rfl) (cI _ my_X11_at lm_X11_152 (by decide)) st_X11_at rfl (fun u hu => sX11_at _ _ _ _ _ _ hu) (sum_le (sum_R sum_nil) (by decide)) rfl (fun v10 => ?_)
      refine j_aload_n (q := 39) hx (dc kX11_clash_0 20 rfl) rfl 0 rfl rfl ?_
      refine w_gR (q := 42) hx (dc kX11_clash_0 21 rfl) ff_X11_5 lk_X11_43 rfl (fun v12 => ?_)
      refine w_gR (q := 45) hx (dc kX11_clash_0 22 rfl) ff_X5_14 lk_X11_201 rfl (fun v13 => ?_)
      refine j_iload_n (q := 46) hx (dc kX11_clash_0 23 rfl) rfl 2 rfl rfl ?_
      refine w_cSIR (q := 49) (As := [vR x.2.2.2 v13, .int x2]) (st := [.int v10, vR x.2.2.2 v7]) hx (dc kX11_clash_0 24 rfl) (cI _ my_X11_at lm_X11_152 (by decide)) st_X11_at rfl (fun u hu => sX11_at _ _ _ _ _ _ hu) (sum_le (sum_I (sum_R sum_nil)) (by decide)) rfl (fun v14 => ?_)
      refine w_cVVW (q := 52) (As := [.int v10, .int v14]) (st := []) hx (dc kX11_clash_0 25 rfl) cf10 (by decide) rfl (cI _ my_X10_agree lm_X11_296 (by decide)) vs_X10_agree rfl (fun u hu => sX10_agree _ _ _ _ _ _ _ hu) (fun e => ite_ne (by unfold mX10_agree at e; exact e)) (Nat.zero_le _) rfl (fun h17 => ?_)
      refine j_aload_n (q := 53) hx (dc kX11_clash_0 26 rfl) rfl 0 rfl rfl ?_
      refine w_gR (q := 56) hx (dc kX11_clash_0 27 rfl) ff_X11_10 lk_X11_73 rfl (fun v18 => ?_)
      refine w_cVIR (q := 59) (As := []) (st := []) hx (dc kX11_clash_0 28 rfl) cf10 (by decide) rfl (cI _ my_X10_isEmpty lm_X11_300 (by decide)) vs_X10_isEmpty rfl (fun u hu => sX10_isEmpty _ _ _ _ _ hu) (fun e => ite_ne (by unfold mX10_isEmpty at e; exact e)) (Nat.zero_le _) rfl (fun v19 => ?_)
      refine j_if_eq (q := 62) (tgt := 66) hx (dc kX11_clash_0 29 rfl) (by decide) Iff.rfl rfl ?_ ?_
      · refine j_iconst (q := 67) (v := (0 : Int32)) hx (dc kX11_clash_0 32 rfl) (by decide) rfl ?_
        exact r_iW hx hR (dc kX11_clash_0 33 rfl)
      · refine j_iconst (q := 63) (v := (1 : Int32)) hx (dc kX11_clash_0 30 rfl) (by decide) rfl ?_
        refine j_goto (q := 67) hx (dc kX11_clash_0 31 rfl) (by decide) ?_
        exact r_iW hx hR (dc kX11_clash_0 33 rfl)
    · refine j_iconst (q := 17) (v := (-1 : Int32)) hx (dc kX11_clash_0 8 rfl) (by decide) rfl ?_
      exact r_iW hx hR (dc kX11_clash_0 9 rfl)

set_option maxHeartbeats 4000000 in
set_option maxRecDepth 100000 in
theorem sX11_implied (l : Launch) (w : Wd) (x0 : Nat) (x1 : Int32) (x2 : Int32) (h : Hp) (u : (Int32 × Hp)) (hK : mX11_implied x0 x1 x2 h = some u) : M1 l w mi_X11_implied 4 [vR w x0, .int x1, .int x2] h u.2 (some (.int u.1)) := by
  refine M1.of (own := RX11) (T := fun _ r => r = u) hK (by decide +kernel) rfl (by first | (simp only [lg_lenR, lg_lenI, lg_lenL, lg_len0]; decide) | decide) (fun x hx hnl hhf hl hw hret hnm hQ h0e => ⟨?_, rfl⟩)
  subst hw
  subst hl
  have hR : Rt x h u.2 (some (.int u.1)) ((some .int)) := ⟨h0e, hhf, hret, hQ⟩
  have hn : ∀ i, i < 3 → i < x.2.2.1.1.1 := fun i hi => by rw [hnl]; exact hi
  have e0 : lv_args 0 [vR x.2.2.2 x0, .int x1, .int x2] = [(0, vR x.2.2.2 x0), (1, .int x1), (2, .int x2)] := by simp only [lv_argsR, lv_argsI, lv_argsL, lv_args0]
  rw [e0]
  unfold mX11_implied
  refine J.ckd fun hck => ?_
  refine j_aload_n (q := 1) hx (dc kX11_implied_0 0 rfl) rfl 0 rfl rfl ?_
  refine j_iload_n (q := 2) hx (dc kX11_implied_0 1 rfl) rfl 1 rfl rfl ?_
  refine w_cVIR (q := 5) (As := [.int x1]) (st := []) hx (dc kX11_implied_0 2 rfl) cf11 (by decide) rfl (cI _ my_X11_isCount lm_X11_174 (by decide)) vs_X11_isCount rfl (fun u hu => sX11_isCount _ _ _ _ _ _ hu) (fun e => ite_ne (by unfold mX11_isCount at e; exact e)) (Nat.zero_le _) rfl (fun v1 => ?_)
  refine j_if_eq (q := 8) (tgt := 16) hx (dc kX11_implied_0 3 rfl) (by decide) Iff.rfl rfl ?_ ?_
  · refine j_iconst (q := 17) (v := (-1 : Int32)) hx (dc kX11_implied_0 8 rfl) (by decide) rfl ?_
    exact r_iW hx hR (dc kX11_implied_0 9 rfl)
  · refine j_aload_n (q := 9) hx (dc kX11_implied_0 4 rfl) rfl 0 rfl rfl ?_
    refine j_iload_n (q := 10) hx (dc kX11_implied_0 5 rfl) rfl 2 rfl rfl ?_
    refine w_cVIR (q := 13) (As := [.int x2]) (st := []) hx (dc kX11_implied_0 6 rfl) cf11 (by decide) rfl (cI _ my_X11_isCount lm_X11_174 (by decide)) vs_X11_isCount rfl (fun u hu => sX11_isCount _ _ _ _ _ _ hu) (fun e => ite_ne (by unfold mX11_isCount at e; exact e)) (Nat.zero_le _) rfl (fun v3 => ?_)
    refine j_if_neS (q := 16) (tgt := 18) hx (dc kX11_implied_0 7 rfl) (by decide) rfl ?_ ?_
    · refine j_aload_n (q := 19) hx (dc kX11_implied_0 10 rfl) rfl 0 rfl rfl ?_
      refine w_cVVW (q := 22) (As := []) (st := []) hx (dc kX11_implied_0 11 rfl) cf11 (by decide) rfl (cI _ my_X11_remember lm_X11_204 (by decide)) vs_X11_remember rfl (fun u hu => sX11_remember _ _ _ _ _ hu) (fun e => ite_ne (by unfold mX11_remember at e; exact e)) (Nat.zero_le _) rfl (fun h6 => ?_)
      refine j_aload_n (q := 23) hx (dc kX11_implied_0 12 rfl) rfl 0 rfl rfl ?_
      refine w_gR (q := 26) hx (dc kX11_implied_0 13 rfl) ff_X11_9 lk_X11_69 rfl (fun v7 => ?_)
      refine j_aload_n (q := 27) hx (dc kX11_implied_0 14 rfl) rfl 0 rfl rfl ?_
      refine w_gR (q := 30) hx (dc kX11_implied_0 15 rfl) ff_X11_3 lk_X11_33 rfl (fun v8 => ?_)
      refine j_aload_n (q := 31) hx (dc kX11_implied_0 16 rfl) rfl 0 rfl rfl ?_
      refine j_iload_n (q := 32) hx (dc kX11_implied_0 17 rfl) rfl 1 rfl rfl ?_
      refine w_cVIR (q := 35) (As := [.int x1]) (st := [vR x.2.2.2 v8, vR x.2.2.2 v7]) hx (dc kX11_implied_0 18 rfl) cf11 (by decide) rfl (cI _ my_X11_kind lm_X11_192 (by decide)) vs_X11_kind rfl (fun u hu => sX11_kind _ _ _ _ _ _ hu) (fun e => ite_ne (by unfold mX11_kind at e; exact e)) (sum_le (sum_R (sum_R sum_nil)) (by decide)) rfl (fun v9 => ?_)
      refine w_cVRR (q := 38) (As := [.int v9]) (st := [vR x.2.2.2 v7]) hx (dc kX11_implied_0 19 rfl) cf1 (by decide) rfl (cI _ my_X1_wonBy lm_X11_304 (by decide)) vs_X1_wonBy rfl (fun u hu => sX1_wonBy _ _ _ _ _ _ hu) (fun e => ite_ne (by unfold mX1_wonBy at e; exact e)) (sum_le (sum_R sum_nil) (by decide)) rfl (fun v11 => ?_)
      refine w_cVVW (q := 41) (As := [vR x.2.2.2 v11]) (st := []) hx (dc kX11_implied_0 20 rfl) cf10 (by decide) rfl (cI _ my_X10_and lm_X11_308 (by decide)) vs_X10_and rfl (fun u hu => sX10_and _ _ _ _ _ _ hu) (fun e => ite_ne (by unfold mX10_and at e; exact e)) (Nat.zero_le _) rfl (fun h14 => ?_)
      refine j_aload_n (q := 42) hx (dc kX11_implied_0 21 rfl) rfl 0 rfl rfl ?_
      refine w_gR (q := 45) hx (dc kX11_implied_0 22 rfl) ff_X11_9 lk_X11_69 rfl (fun v15 => ?_)
      refine j_aload_n (q := 46) hx (dc kX11_implied_0 23 rfl) rfl 0 rfl rfl ?_
      refine w_gR (q := 49) hx (dc kX11_implied_0 24 rfl) ff_X11_3 lk_X11_33 rfl (fun v16 => ?_)
      refine j_aload_n (q := 50) hx (dc kX11_implied_0 25 rfl) rfl 0 rfl rfl ?_
      refine j_iload_n (q := 51) hx (dc kX11_implied_0 26 rfl) rfl 2 rfl rfl ?_
      refine w_cVIR (q := 54) (As := [.int x2]) (st := [vR x.2.2.2 v16, vR x.2.2.2 v15]) hx (dc kX11_implied_0 27 rfl) cf11 (by decide) rfl (cI _ my_X11_kind lm_X11_192 (by decide)) vs_X11_kind rfl (fun u hu => sX11_kind _ _ _ _ _ _ hu) (fun e => ite_ne (by unfold mX11_kind at e; exact e)) (sum_le (sum_R (sum_R sum_nil)) (by decide)) rfl (fun v17 => ?_)
      refine w_cVRR (q := 57) (As := [.int v17]) (st := [vR x.2.2.2 v15]) hx (dc kX11_implied_0 28 rfl) cf1 (by decide) rfl (cI _ my_X1_wonBy lm_X11_304 (by decide)) vs_X1_wonBy rfl (fun u hu => sX1_wonBy _ _ _ _ _ _ hu) (fun e => ite_ne (by unfold mX1_wonBy at e; exact e)) (sum_le (sum_R sum_nil) (by decide)) rfl (fun v19 => ?_)
      refine w_cVIR (q := 60) (As := [vR x.2.2.2 v19]) (st := []) hx (dc kX11_implied_0 29 rfl) cf10 (by decide) rfl (cI _ my_X10_within lm_X11_312 (by decide)) vs_X10_within rfl (fun u hu => sX10_within _ _ _ _ _ _ hu) (fun e => ite_ne (by unfold mX10_within at e; exact e)) (Nat.zero_le _) rfl (fun v21 => ?_)
      refine j_if_eq (q := 63) (tgt := 67) hx (dc kX11_implied_0 30 rfl) (by decide) Iff.rfl rfl ?_ ?_
      · refine j_iconst (q := 68) (v := (0 : Int32)) hx (dc kX11_implied_0 33 rfl) (by decide) rfl ?_
        exact r_iW hx hR (dc kX11_implied_0 34 rfl)
      · refine j_iconst (q := 64) (v := (1 : Int32)) hx (dc kX11_implied_0 31 rfl) (by decide) rfl ?_
        refine j_goto (q := 68) hx (dc kX11_implied_0 32 rfl) (by decide) ?_
        exact r_iW hx hR (dc kX11_implied_0 34 rfl)
    · refine j_iconst (q := 17) (v := (-1 : Int32)) hx (dc kX11_implied_0 8 rfl) (by decide) rfl ?_
      exact r_iW hx hR (dc kX11_implied_0 9 rfl)

set_option maxHeartbeats 4000000 in
set_option maxRecDepth 100000 in
theorem sX11_findLack (l : Launch) (w : Wd) (x0 : Nat) (x1 : Int32) (h : Hp) (u : (Int32 × Hp)) (hK : mX11_findLack x0 x1 h = some u) : M1 l w mi_X11_findLack 4 [vR w x0, .int x1] h u.2 (some (.int u.1)) := by
  refine M1.of (own := RX11) (T := fun _ r => r = u) hK (by decide +kernel) rfl (by first | (simp only [lg_lenR, lg_lenI, lg_lenL, lg_len0]; decide) | decide) (fun x hx hnl hhf hl hw hret hnm hQ h0e => ⟨?_, rfl⟩)
  subst hw
  subst hl
  have hR : Rt x h u.2 (some (.int u.1)) ((some .boolean)) := ⟨h0e, hhf, hret, hQ⟩
  have hn : ∀ i, i < 6 → i < x.2.2.1.1.1 := fun i hi => by rw [hnl]; exact hi
  have e0 : lv_args 0 [vR x.2.2.2 x0, .int x1] = [(0, vR x.2.2.2 x0), (1, .int x1)] := by simp only [lv_argsR, lv_argsI, lv_argsL, lv_args0]
  rw [e0]
  have hb155 : ∀ (x0 : Nat) (x1 : Int32) (x2 : Int32) (x3 : Int32) (x4 : Int32) (h : Hp), J x 155 [(0, vR x.2.2.2 x0), (1, .int x1), (2, .int x2), (3, .int x3), (4, .int x4)] [] h (mX11_findLack_l155 x0 x1 x2 x3 x4 h) (fun r => r = u) := by
    intro x0 x1 x2 x3 x4 h
    have hB : ∀ (x4 : Int32) (h : Hp), J x 155 [(0, vR x.2.2.2 x0), (1, .int x1), (2, .int x2), (3, .int x3), (4, .int x4)] [] h (mX11_findLack_l155f x0 x1 x2 x3 x4 h) (TLo (S := (Int32 × Hp)) x 155 (fun s => [(0, vR x.2.2.2 x0), (1, .int x1), (2, .int x2), (3, .int x3), (4, .int s.1)]) [] (fun s => s.2) (fun r => r = u)) := by
      intro x4 h
      have hb289 : ∀ (x0 : Nat) (x1 : Int32) (x2 : Int32) (x3 : Int32) (x4 : Int32) (h : Hp), J x 289 [(0, vR x.2.2.2 x0), (1, .int x1), (2, .int x2), (3, .int x3), (4, .int x4)] [] h (mX11_findLack_b289 x0 x1 x2 x3 x4 h) (TLo (S := (Int32 × Hp)) x 155 (fun s => [(0, vR x.2.2.2 x0), (1, .int x1), (2, .int x2), (3, .int x3), (4, .int s.1)]) [] (fun s => s.2) (fun r => r = u)) := by
        intro x0 x1 x2 x3 x4 h
        unfold mX11_findLack_b289
        refine j_iinc (q := 292) (l2 := [(0, vR x.2.2.2 x0), (1, .int x1), (2, .int x2), (3, .int x3)]) hx (dc kX11_findLack_2 15 rfl) 4 rfl (v := (1 : Int32)) (by decide) (hn 4 (by decide)) [0, 1, 2, 3] rfl ⟨⟨show (0 : Nat) ≠ 4 by decide, Or.inl (show (0 : Nat) + 1 ≠ 4 by decide)⟩, ⟨⟨show (1 : Nat) ≠ 4 by decide, Or.inl (show (1 : Nat) + 1 ≠ 4 by decide)⟩, ⟨⟨show (2 : Nat) ≠ 4 by decide, Or.inl (show (2 : Nat) + 1 ≠ 4 by decide)⟩, ⟨⟨show (3 : Nat) ≠ 4 by decide, Or.inr rfl⟩, trivial⟩⟩⟩⟩ rfl ?_
        refine j_goto (q := 155) hx (dc kX11_findLack_2 16 rfl) (by decide) ?_
        exact j_back [1, 2, 3, 4, 0] ((x4 + (1 : Int32)), h) rfl rfl
      have hb212 : ∀ (x0 : Nat) (x1 : Int32) (x2 : Int32) (x3 : Int32) (x4 : Int32) (t0 : Int32) (h : Hp), J x 212 [(0, vR x.2.2.2 x0), (1, .int x1), (2, .int x2), (3, .int x3), (4, .int x4)] [.int t0] h (mX11_findLack_b212 x0 x1 x2 x3 x4 t0 h) (TLo (S := (Int32 × Hp)) x 155 (fun s => [(0, vR x.2.2.2 x0), (1, .int x1), (2, .int x2), (3, .int x3), (4, .int s.1)]) [] (fun s => s.2) (fun r => r = u)) := by
        intro x0 x1 x2 x3 x4 t0 h
        unfold mX11_findLack_b212
        refine j_istore (q := 214) (i := 5) (l2 := [(0, vR x.2.2.2 x0), (1, .int x1), (2, .int x2), (3, .int x3), (4, .int x4)]) hx (dc kX11_findLack_1 42 rfl) (hn 5 (by decide)) [0, 1, 2, 3, 4] rfl ⟨⟨show (0 : Nat) ≠ 5 by decide, Or.inl (show (0 : Nat) + 1 ≠ 5 by decide)⟩, ⟨⟨show (1 : Nat) ≠ 5 by decide, Or.inl (show (1 : Nat) + 1 ≠ 5 by decide)⟩, ⟨⟨show (2 : Nat) ≠ 5 by decide, Or.inl (show (2 : Nat) + 1 ≠ 5 by decide)⟩, ⟨⟨show (3 : Nat) ≠ 5 by decide, Or.inl (show (3 : Nat) + 1 ≠ 5 by decide)⟩, ⟨⟨show (4 : Nat) ≠ 5 by decide, Or.inr rfl⟩, trivial⟩⟩⟩⟩⟩ rfl ?_
        refine j_iload (q := 216) hx (dc kX11_findLack_1 43 rfl) 0 rfl rfl ?_
        refine j_if_neS (q := 219) (tgt := 289) hx (dc kX11_findLack_1 44 rfl) (by decide) rfl ?_ ?_
        · exact j_sub [1, 2, 3, 4, 5] rfl (hb289 x0 x1 x2 x3 x4 h)
        · refine j_aload_n (q := 220) hx (dc kX11_findLack_1 45 rfl) rfl 1 rfl rfl ?_
          refine w_gR (q := 223) hx (dc kX11_findLack_1 46 rfl) ff_X11_3 lk_X11_33 rfl (fun v49 => ?_)
          refine j_iload_n (q := 224) hx (dc kX11_findLack_1 47 rfl) rfl 3 rfl rfl ?_
          refine j_aload_n (q := 225) hx (dc kX11_findLack_1 48 rfl) rfl 1 rfl rfl ?_
          refine w_gR (q := 228) hx (dc kX11_findLack_1 49 rfl) ff_X11_12 lk_X11_82 rfl (fun v50 => ?_)
          refine j_aload_n (q := 229) hx (dc kX11_findLack_1 50 rfl) rfl 1 rfl rfl ?_
          refine w_gR (q := 232) hx (dc kX11_findLack_1 51 rfl) ff_X11_13 lk_X11_89 rfl (fun v51 => ?_)
          refine w_gI (q := 235) hx (dc kX11_findLack_1 52 rfl) ff_X3_2 lk_X11_319 rfl (fun v52 => ?_)
          refine j_aload_n (q := 236) hx (dc kX11_findLack_1 53 rfl) rfl 1 rfl rfl ?_
          refine w_gR (q := 239) hx (dc kX11_findLack_1 54 rfl) ff_X11_13 lk_X11_89 rfl (fun v53 => ?_)
          refine w_gI (q := 242) hx (dc kX11_findLack_1 55 rfl) ff_X3_3 lk_X11_320 rfl (fun v54 => ?_)
          refine w_cVIR (q := 245) (As := [.int v52, .int v54]) (st := [.int x2, vR x.2.2.2 v49]) hx (dc kX11_findLack_1 56 rfl) cf9 (by decide) rfl (cI _ my_X9_markOf lm_X11_473 (by decide)) vs_X9_markOf rfl (fun u hu => sX9_markOf _ _ _ _ _ _ _ hu) (fun e => ite_ne (by unfold mX9_markOf at e; exact e)) (sum_le (sum_I (sum_R sum_nil)) (by decide)) rfl (fun v55 => ?_)
          refine w_cVIR (q := 248) (As := [.int x2, .int v55]) (st := []) hx (dc kX11_findLack_1 57 rfl) cf1 (by decide) rfl (cI _ my_X1_sound lm_X11_476 (by decide)) vs_X1_sound rfl (fun u hu => sX1_sound _ _ _ _ _ _ _ hu) (fun e => ite_ne (by unfold mX1_sound at e; exact e)) (Nat.zero_le _) rfl (fun v57 => ?_)
          refine j_if_eq (q := 251) (tgt := 289) hx (dc kX11_findLack_1 58 rfl) (by decide) Iff.rfl rfl ?_ ?_
          · exact j_sub [1, 2, 3, 4, 5] rfl (hb289 x0 x1 x2 x3 x4 h)
          · refine j_aload_n (q := 252) hx (dc kX11_findLack_1 59 rfl) rfl 1 rfl rfl ?_
            refine w_gR (q := 255) hx (dc kX11_findLack_1 60 rfl) ff_X11_5 lk_X11_43 rfl (fun v59 => ?_)
            refine w_gR (q := 258) hx (dc kX11_findLack_1 61 rfl) ff_X5_11 lk_X11_180 rfl (fun v60 => ?_)
            refine j_iload_n (q := 259) hx (dc kX11_findLack_1 62 rfl) rfl 2 rfl rfl ?_
            refine w_cSIR (q := 262) (As := [vR x.2.2.2 v60, .int x1]) (st := []) hx (dc kX11_findLack_1 63 rfl) (cI _ my_X11_at lm_X11_152 (by decide)) st_X11_at rfl (fun u hu => sX11_at _ _ _ _ _ _ hu) (Nat.zero_le _) rfl (fun v61 => ?_)
            refine j_aload_n (q := 263) hx (dc kX11_findLack_2 0 rfl) rfl 1 rfl rfl ?_
            refine j_iload_n (q := 264) hx (dc kX11_findLack_2 1 rfl) rfl 2 rfl rfl ?_
            refine j_iload_n (q := 265) hx (dc kX11_findLack_2 2 rfl) rfl 4 rfl rfl ?_
            refine j_aload_n (q := 266) hx (dc kX11_findLack_2 3 rfl) rfl 1 rfl rfl ?_
            refine w_gR (q := 269) hx (dc kX11_findLack_2 4 rfl) ff_X11_13 lk_X11_89 rfl (fun v63 => ?_)
            refine w_gI (q := 272) hx (dc kX11_findLack_2 5 rfl) ff_X3_2 lk_X11_319 rfl (fun v64 => ?_)
            refine j_ior (q := 273) hx (dc kX11_findLack_2 6 rfl) rfl ?_
            refine w_cVIR (q := 276) (As := [.int x1, .int (x3 ||| v64)]) (st := [.int v61]) hx (dc kX11_findLack_2 7 rfl) cf11 (by decide) rfl (cI _ my_X11_leastBack lm_X11_438 (by decide)) vs_X11_leastBack rfl (fun u hu => sX11_leastBack _ _ _ _ _ _ _ hu) (fun e => ite_ne (by unfold mX11_leastBack at e; exact e)) (sum_le (sum_I sum_nil) (by decide)) rfl (fun v65 => ?_)
            refine j_iadd (q := 277) hx (dc kX11_findLack_2 8 rfl) rfl ?_
            refine j_aload_n (q := 278) hx (dc kX11_findLack_2 9 rfl) rfl 1 rfl rfl ?_
            refine w_gR (q := 281) hx (dc kX11_findLack_2 10 rfl) ff_X11_3 lk_X11_33 rfl (fun v67 => ?_)
            refine w_gI (q := 284) hx (dc kX11_findLack_2 11 rfl) ff_X1_5 lk_X11_416 rfl (fun v68 => ?_)
            refine j_icmp_gt (q := 287) (tgt := 289) hx (dc kX11_findLack_2 12 rfl) (by decide) Iff.rfl rfl ?_ ?_
            · exact j_sub [1, 2, 3, 4, 5] rfl (hb289 x0 x1 x2 x3 x4 h)
            · refine j_exit ?_
              refine j_iconst (q := 288) (v := (1 : Int32)) hx (dc kX11_findLack_2 13 rfl) (by decide) rfl ?_
              exact r_cW hx (Or.inr rfl) hR (dc kX11_findLack_2 14 rfl)
      unfold mX11_findLack_l155f
      refine j_iload (q := 157) hx (dc kX11_findLack_1 16 rfl) 4 rfl rfl ?_
      refine j_sipush (q := 160) (v := (6561 : Int32)) hx (dc kX11_findLack_1 17 rfl) (by decide) rfl ?_
      refine j_icmp_geS (q := 163) (tgt := 295) hx (dc kX11_findLack_1 18 rfl) (by decide) rfl ?_ ?_
      · refine j_exit ?_
        refine j_iconst (q := 296) (v := (0 : Int32)) hx (dc kX11_findLack_2 17 rfl) (by decide) rfl ?_
        exact r_cW hx (Or.inl rfl) hR (dc kX11_findLack_2 18 rfl)
      · refine j_aload_n (q := 164) hx (dc kX11_findLack_1 19 rfl) rfl 0 rfl rfl ?_
        refine w_gR (q := 167) hx (dc kX11_findLack_1 20 rfl) ff_X11_13 lk_X11_89 rfl (fun v37 => ?_)
        refine w_cVIW (q := 170) (As := []) (st := []) hx (dc kX11_findLack_1 21 rfl) cf3 (by decide) rfl (cI _ my_X3_more lm_X11_470 (by decide)) vs_X3_more rfl (fun u hu => sX3_more _ _ _ _ _ hu) (fun e => ite_ne (by unfold mX3_more at e; exact e)) (Nat.zero_le _) rfl (fun v38 h39 => ?_)
        refine j_if_eq (q := 173) (tgt := 295) hx (dc kX11_findLack_1 22 rfl) (by decide) Iff.rfl rfl ?_ ?_
        · refine j_exit ?_
          refine j_iconst (q := 296) (v := (0 : Int32)) hx (dc kX11_findLack_2 17 rfl) (by decide) rfl ?_
          exact r_cW hx (Or.inl rfl) hR (dc kX11_findLack_2 18 rfl)
        · refine j_aload_n (q := 174) hx (dc kX11_findLack_1 23 rfl) rfl 0 rfl rfl ?_
          refine w_gR (q := 177) hx (dc kX11_findLack_1 24 rfl) ff_X11_13 lk_X11_89 rfl (fun v40 => ?_)
          refine w_gI (q := 180) hx (dc kX11_findLack_1 25 rfl) ff_X3_2 lk_X11_319 rfl (fun v41 => ?_)
          refine j_aload_n (q := 181) hx (dc kX11_findLack_1 26 rfl) rfl 0 rfl rfl ?_
          refine w_gR (q := 184) hx (dc kX11_findLack_1 27 rfl) ff_X11_5 lk_X11_43 rfl (fun v42 => ?_)
          refine w_cVIR (q := 187) (As := []) (st := [.int v41]) hx (dc kX11_findLack_1 28 rfl) cf5 (by decide) rfl (cI _ my_X5_known lm_X11_160 (by decide)) vs_X5_known rfl (fun u hu => sX5_known _ _ _ _ _ hu) (fun e => ite_ne (by unfold mX5_known at e; exact e)) (sum_le (sum_I sum_nil) (by decide)) rfl (fun v43 => ?_)
          refine j_iand (q := 188) hx (dc kX11_findLack_1 29 rfl) rfl ?_
          refine j_aload_n (q := 189) hx (dc kX11_findLack_1 30 rfl) rfl 0 rfl rfl ?_
          refine w_gR (q := 192) hx (dc kX11_findLack_1 31 rfl) ff_X11_13 lk_X11_89 rfl (fun v45 => ?_)
          refine w_gI (q := 195) hx (dc kX11_findLack_1 32 rfl) ff_X3_3 lk_X11_320 rfl (fun v46 => ?_)
          refine j_aload_n (q := 196) hx (dc kX11_findLack_1 33 rfl) rfl 0 rfl rfl ?_
          refine w_gR (q := 199) hx (dc kX11_findLack_1 34 rfl) ff_X11_5 lk_X11_43 rfl (fun v47 => ?_)
          refine w_gI (q := 202) hx (dc kX11_findLack_1 35 rfl) ff_X5_8 lk_X11_168 rfl (fun v48 => ?_)
          refine j_ixor (q := 203) hx (dc kX11_findLack_1 36 rfl) rfl ?_
          refine j_iand (q := 204) hx (dc kX11_findLack_1 37 rfl) rfl ?_
          refine j_if_eq (q := 207) (tgt := 211) hx (dc kX11_findLack_1 38 rfl) (by decide) Iff.rfl rfl ?_ ?_
          · refine j_iconst (q := 212) (v := (0 : Int32)) hx (dc kX11_findLack_1 41 rfl) (by decide) rfl ?_
            exact hb212 x0 x1 x2 x3 x4 (0 : Int32) h39
          · refine j_iconst (q := 208) (v := (1 : Int32)) hx (dc kX11_findLack_1 39 rfl) (by decide) rfl ?_
            refine j_goto (q := 212) hx (dc kX11_findLack_1 40 rfl) (by decide) ?_
            exact hb212 x0 x1 x2 x3 x4 (1 : Int32) h39
    exact j_loop (S := (Int32 × Hp)) (lvf := fun s => [(0, vR x.2.2.2 x0), (1, .int x1), (2, .int x2), (3, .int x3), (4, .int s.1)]) (hpf := fun s => s.2) (f := (fun s : (Int32 × Hp) => mX11_findLack_l155f x0 x1 x2 x3 s.1 s.2)) (fun s => hB s.1 s.2) (x4, h)
  have hb58 : ∀ (x0 : Nat) (x1 : Int32) (x2 : Int32) (x3 : Int32) (h : Hp), J x 58 [(0, vR x.2.2.2 x0), (1, .int x1), (2, .int x2), (3, .int x3)] [] h (mX11_findLack_l58 x0 x1 x2 x3 h) (fun r => r = u) := by
    intro x0 x1 x2 x3 h
    have hB : ∀ (x3 : Int32) (h : Hp), J x 58 [(0, vR x.2.2.2 x0), (1, .int x1), (2, .int x2), (3, .int x3)] [] h (mX11_findLack_l58f x0 x1 x2 x3 h) (TLo (S := (Int32 × Hp)) x 58 (fun s => [(0, vR x.2.2.2 x0), (1, .int x1), (2, .int x2), (3, .int s.1)]) [] (fun s => s.2) (fun r => r = u)) := by
      intro x3 h
      unfold mX11_findLack_l58f
      refine j_iload_n (q := 59) hx (dc kX11_findLack_0 30 rfl) rfl 3 rfl rfl ?_
      refine j_sipush (q := 62) (v := (256 : Int32)) hx (dc kX11_findLack_0 31 rfl) (by decide) rfl ?_
      refine j_icmp_geS (q := 65) (tgt := 88) hx (dc kX11_findLack_0 32 rfl) (by decide) rfl ?_ ?_
      · refine j_exit ?_
        refine j_aload_n (q := 89) hx (dc kX11_findLack_0 44 rfl) rfl 0 rfl rfl ?_
        refine w_gR (q := 92) hx (dc kX11_findLack_0 45 rfl) ff_X11_5 lk_X11_43 rfl (fun v17 => ?_)
        refine w_gR (q := 95) hx (dc kX11_findLack_0 46 rfl) ff_X5_13 lk_X11_198 rfl (fun v18 => ?_)
        refine j_iload_n (q := 96) hx (dc kX11_findLack_0 47 rfl) rfl 1 rfl rfl ?_
        refine w_cSIR (q := 99) (As := [vR x.2.2.2 v18, .int x1]) (st := []) hx (dc kX11_findLack_0 48 rfl) (cI _ my_X11_at lm_X11_152 (by decide)) st_X11_at rfl (fun u hu => sX11_at _ _ _ _ _ _ hu) (Nat.zero_le _) rfl (fun v19 => ?_)
        refine j_istore_n (q := 100) (i := 3) (l2 := [(0, vR x.2.2.2 x0), (1, .int x1), (2, .int x2)]) hx (dc kX11_findLack_0 49 rfl) rfl (hn 3 (by decide)) [0, 1, 2] rfl ⟨⟨show (0 : Nat) ≠ 3 by decide, Or.inl (show (0 : Nat) + 1 ≠ 3 by decide)⟩, ⟨⟨show (1 : Nat) ≠ 3 by decide, Or.inl (show (1 : Nat) + 1 ≠ 3 by decide)⟩, ⟨⟨show (2 : Nat) ≠ 3 by decide, Or.inr rfl⟩, trivial⟩⟩⟩ rfl ?_
        refine j_aload_n (q := 101) hx (dc kX11_findLack_0 50 rfl) rfl 1 rfl rfl ?_
        refine w_gR (q := 104) hx (dc kX11_findLack_0 51 rfl) ff_X11_12 lk_X11_82 rfl (fun v21 => ?_)
        refine j_iconst (q := 105) (v := (1 : Int32)) hx (dc kX11_findLack_0 52 rfl) (by decide) rfl ?_
        refine j_aload_n (q := 106) hx (dc kX11_findLack_0 53 rfl) rfl 1 rfl rfl ?_
        refine w_gR (q := 109) hx (dc kX11_findLack_0 54 rfl) ff_X11_3 lk_X11_33 rfl (fun v22 => ?_)
        refine w_gI (q := 112) hx (dc kX11_findLack_0 55 rfl) ff_X1_1 lk_X11_243 rfl (fun v23 => ?_)
        refine j_ishl (q := 113) hx (dc kX11_findLack_0 56 rfl) rfl ?_
        refine j_iconst (q := 114) (v := (1 : Int32)) hx (dc kX11_findLack_0 57 rfl) (by decide) rfl ?_
        refine j_isub (q := 115) hx (dc kX11_findLack_0 58 rfl) rfl ?_
        refine j_iload_n (q := 116) hx (dc kX11_findLack_0 59 rfl) rfl 0 rfl rfl ?_
        refine j_iconst (q := 117) (v := (-1 : Int32)) hx (dc kX11_findLack_0 60 rfl) (by decide) rfl ?_
        refine j_ixor (q := 118) hx (dc kX11_findLack_0 61 rfl) rfl ?_
        refine j_iand (q := 119) hx (dc kX11_findLack_0 62 rfl) rfl ?_
        refine j_aload_n (q := 120) hx (dc kX11_findLack_0 63 rfl) rfl 1 rfl rfl ?_
        refine w_gR (q := 123) hx (dc kX11_findLack_1 0 rfl) ff_X11_5 lk_X11_43 rfl (fun v24 => ?_)
        refine w_gR (q := 126) hx (dc kX11_findLack_1 1 rfl) ff_X5_14 lk_X11_201 rfl (fun v25 => ?_)
        refine j_iload_n (q := 127) hx (dc kX11_findLack_1 2 rfl) rfl 2 rfl rfl ?_
        refine w_cSIR (q := 130) (As := [vR x.2.2.2 v25, .int x1]) (st := [.int ((((1 : Int32) <<< (v23 &&& 31)) - (1 : Int32)) &&& (v19 ^^^ (-1 : Int32))), vR x.2.2.2 v21]) hx (dc kX11_findLack_1 3 rfl) (cI _ my_X11_at lm_X11_152 (by decide)) st_X11_at rfl (fun u hu => sX11_at _ _ _ _ _ _ hu) (sum_le (sum_I (sum_R sum_nil)) (by decide)) rfl (fun v26 => ?_)
        refine w_cVVW (q := 133) (As := [.int ((((1 : Int32) <<< (v23 &&& 31)) - (1 : Int32)) &&& (v19 ^^^ (-1 : Int32))), .int v26]) (st := []) hx (dc kX11_findLack_1 4 rfl) cf9 (by decide) rfl (cI _ my_X9_grow lm_X11_461 (by decide)) vs_X9_grow rfl (fun u hu => sX9_grow _ _ _ _ _ _ _ hu) (fun e => ite_ne (by unfold mX9_grow at e; exact e)) (Nat.zero_le _) rfl (fun h29 => ?_)
        refine j_aload_n (q := 134) hx (dc kX11_findLack_1 5 rfl) rfl 1 rfl rfl ?_
        refine j_iload_n (q := 135) hx (dc kX11_findLack_1 6 rfl) rfl 2 rfl rfl ?_
        refine w_cVVW (q := 138) (As := [.int x1]) (st := []) hx (dc kX11_findLack_1 7 rfl) cf11 (by decide) rfl (cI _ my_X11_workOutBacks lm_X11_435 (by decide)) vs_X11_workOutBacks rfl (fun u hu => sX11_workOutBacks _ _ _ _ _ _ hu) (fun e => ite_ne (by unfold mX11_workOutBacks at e; exact e)) (Nat.zero_le _) rfl (fun h31 => ?_)
        refine j_aload_n (q := 139) hx (dc kX11_findLack_1 8 rfl) rfl 1 rfl rfl ?_
        refine w_gR (q := 142) hx (dc kX11_findLack_1 9 rfl) ff_X11_13 lk_X11_89 rfl (fun v32 => ?_)
        refine j_aload_n (q := 143) hx (dc kX11_findLack_1 10 rfl) rfl 1 rfl rfl ?_
        refine w_gR (q := 146) hx (dc kX11_findLack_1 11 rfl) ff_X11_12 lk_X11_82 rfl (fun v33 => ?_)
        refine w_gI (q := 149) hx (dc kX11_findLack_1 12 rfl) ff_X9_4 lk_X11_464 rfl (fun v34 => ?_)
        refine w_cVVW (q := 152) (As := [.int v34]) (st := []) hx (dc kX11_findLack_1 13 rfl) cf3 (by decide) rfl (cI _ my_X3_start lm_X11_467 (by decide)) vs_X3_start rfl (fun u hu => sX3_start _ _ _ _ _ _ hu) (fun e => ite_ne (by unfold mX3_start at e; exact e)) (Nat.zero_le _) rfl (fun h36 => ?_)
        refine j_iconst (q := 153) (v := (0 : Int32)) hx (dc kX11_findLack_1 14 rfl) (by decide) rfl ?_
        refine j_istore (q := 155) (i := 4) (l2 := [(3, .int v19), (0, vR x.2.2.2 x0), (1, .int x1), (2, .int x2)]) hx (dc kX11_findLack_1 15 rfl) (hn 4 (by decide)) [0, 1, 2, 3] rfl ⟨⟨show (3 : Nat) ≠ 4 by decide, Or.inr rfl⟩, ⟨⟨show (0 : Nat) ≠ 4 by decide, Or.inl (show (0 : Nat) + 1 ≠ 4 by decide)⟩, ⟨⟨show (1 : Nat) ≠ 4 by decide, Or.inl (show (1 : Nat) + 1 ≠ 4 by decide)⟩, ⟨⟨show (2 : Nat) ≠ 4 by decide, Or.inl (show (2 : Nat) + 1 ≠ 4 by decide)⟩, trivial⟩⟩⟩⟩ rfl ?_
        exact j_sub [2, 3, 4, 1, 0] rfl (hb155 x0 x1 x2 v19 (0 : Int32) h36)
      · refine j_aload_n (q := 66) hx (dc kX11_findLack_0 33 rfl) rfl 0 rfl rfl ?_
        refine w_gR (q := 69) hx (dc kX11_findLack_0 34 rfl) ff_X11_12 lk_X11_82 rfl (fun v69 => ?_)
        refine j_iload_n (q := 70) hx (dc kX11_findLack_0 35 rfl) rfl 3 rfl rfl ?_
        refine j_aload_n (q := 71) hx (dc kX11_findLack_0 36 rfl) rfl 0 rfl rfl ?_
        refine w_gR (q := 74) hx (dc kX11_findLack_0 37 rfl) ff_X11_3 lk_X11_33 rfl (fun v70 => ?_)
        refine j_iload_n (q := 75) hx (dc kX11_findLack_0 38 rfl) rfl 2 rfl rfl ?_
        refine j_iload_n (q := 76) hx (dc kX11_findLack_0 39 rfl) rfl 3 rfl rfl ?_
        refine w_cVIR (q := 79) (As := [.int x2, .int x3]) (st := [.int x3, vR x.2.2.2 v69]) hx (dc kX11_findLack_0 40 rfl) cf1 (by decide) rfl (cI _ my_X1_flawsAt lm_X11_455 (by decide)) vs_X1_flawsAt rfl (fun u hu => sX1_flawsAt _ _ _ _ _ _ _ hu) (fun e => ite_ne (by unfold mX1_flawsAt at e; exact e)) (sum_le (sum_I (sum_R sum_nil)) (by decide)) rfl (fun v71 => ?_)
        refine w_cVVW (q := 82) (As := [.int x3, .int v71]) (st := []) hx (dc kX11_findLack_0 41 rfl) cf9 (by decide) rfl (cI _ my_X9_setLeaf lm_X11_458 (by decide)) vs_X9_setLeaf rfl (fun u hu => sX9_setLeaf _ _ _ _ _ _ _ hu) (fun e => ite_ne (by unfold mX9_setLeaf at e; exact e)) (Nat.zero_le _) rfl (fun h74 => ?_)
        refine j_iinc (q := 85) (l2 := [(0, vR x.2.2.2 x0), (1, .int x1), (2, .int x2)]) hx (dc kX11_findLack_0 42 rfl) 3 rfl (v := (1 : Int32)) (by decide) (hn 3 (by decide)) [0, 1, 2] rfl ⟨⟨show (0 : Nat) ≠ 3 by decide, Or.inl (show (0 : Nat) + 1 ≠ 3 by decide)⟩, ⟨⟨show (1 : Nat) ≠ 3 by decide, Or.inl (show (1 : Nat) + 1 ≠ 3 by decide)⟩, ⟨⟨show (2 : Nat) ≠ 3 by decide, Or.inr rfl⟩, trivial⟩⟩⟩ rfl ?_
        refine j_goto (q := 58) hx (dc kX11_findLack_0 43 rfl) (by decide) ?_
        exact j_back [1, 2, 3, 0] ((x3 + (1 : Int32)), h74) rfl rfl
    exact j_loop (S := (Int32 × Hp)) (lvf := fun s => [(0, vR x.2.2.2 x0), (1, .int x1), (2, .int x2), (3, .int s.1)]) (hpf := fun s => s.2) (f := (fun s : (Int32 × Hp) => mX11_findLack_l58f x0 x1 x2 s.1 s.2)) (fun s => hB s.1 s.2) (x3, h)
  unfold mX11_findLack
  refine J.ckd fun hck => ?_
  refine j_aload_n (q := 1) hx (dc kX11_findLack_0 0 rfl) rfl 0 rfl rfl ?_
  refine w_cVVW (q := 4) (As := []) (st := []) hx (dc kX11_findLack_0 1 rfl) cf11 (by decide) rfl (cI _ my_X11_remember lm_X11_204 (by decide)) vs_X11_remember rfl (fun u hu => sX11_remember _ _ _ _ _ hu) (fun e => ite_ne (by unfold mX11_remember at e; exact e)) (Nat.zero_le _) rfl (fun h2 => ?_)
  refine j_aload_n (q := 5) hx (dc kX11_findLack_0 2 rfl) rfl 0 rfl rfl ?_
  refine j_iload_n (q := 6) hx (dc kX11_findLack_0 3 rfl) rfl 1 rfl rfl ?_
  refine w_cVIR (q := 9) (As := [.int x1]) (st := []) hx (dc kX11_findLack_0 4 rfl) cf11 (by decide) rfl (cI _ my_X11_kind lm_X11_192 (by decide)) vs_X11_kind rfl (fun u hu => sX11_kind _ _ _ _ _ _ hu) (fun e => ite_ne (by unfold mX11_kind at e; exact e)) (Nat.zero_le _) rfl (fun v3 => ?_)
  refine j_istore_n (q := 10) (i := 2) (l2 := [(0, vR x.2.2.2 x0), (1, .int x1)]) hx (dc kX11_findLack_0 5 rfl) rfl (hn 2 (by decide)) [0, 1] rfl ⟨⟨show (0 : Nat) ≠ 2 by decide, Or.inl (show (0 : Nat) + 1 ≠ 2 by decide)⟩, ⟨⟨show (1 : Nat) ≠ 2 by decide, Or.inr rfl⟩, trivial⟩⟩ rfl ?_
  refine j_aload_n (q := 11) hx (dc kX11_findLack_0 6 rfl) rfl 1 rfl rfl ?_
  refine w_gR (q := 14) hx (dc kX11_findLack_0 7 rfl) ff_X11_5 lk_X11_43 rfl (fun v5 => ?_)
  refine w_gI (q := 17) hx (dc kX11_findLack_0 8 rfl) ff_X5_3 lk_X11_257 rfl (fun v6 => ?_)
  refine j_iload_n (q := 18) hx (dc kX11_findLack_0 9 rfl) rfl 2 rfl rfl ?_
  refine w_cSIR (q := 21) (As := [.int v6, .int x1]) (st := []) hx (dc kX11_findLack_0 10 rfl) (cI _ my_X11_has lm_X11_164 (by decide)) st_X11_has rfl (fun u hu => sX11_has _ _ _ _ _ _ hu) (Nat.zero_le _) rfl (fun v7 => ?_)
  refine j_if_neS (q := 24) (tgt := 54) hx (dc kX11_findLack_0 11 rfl) (by decide) rfl ?_ ?_
  · refine j_iconst (q := 55) (v := (0 : Int32)) hx (dc kX11_findLack_0 26 rfl) (by decide) rfl ?_
    exact r_cW hx (Or.inl rfl) hR (dc kX11_findLack_0 27 rfl)
  · refine j_aload_n (q := 25) hx (dc kX11_findLack_0 12 rfl) rfl 1 rfl rfl ?_
    refine w_gR (q := 28) hx (dc kX11_findLack_0 13 rfl) ff_X11_3 lk_X11_33 rfl (fun v9 => ?_)
    refine j_iload_n (q := 29) hx (dc kX11_findLack_0 14 rfl) rfl 0 rfl rfl ?_
    refine j_aload_n (q := 30) hx (dc kX11_findLack_0 15 rfl) rfl 1 rfl rfl ?_
    refine w_gR (q := 33) hx (dc kX11_findLack_0 16 rfl) ff_X11_9 lk_X11_69 rfl (fun v10 => ?_)
    refine w_cVIR (q := 36) (As := [.int v3, vR x.2.2.2 v10]) (st := []) hx (dc kX11_findLack_0 17 rfl) cf1 (by decide) rfl (cI _ my_X1_needsMet lm_X11_449 (by decide)) vs_X1_needsMet rfl (fun u hu => sX1_needsMet _ _ _ _ _ _ _ hu) (fun e => ite_ne (by unfold mX1_needsMet at e; exact e)) (Nat.zero_le _) rfl (fun v11 => ?_)
    refine j_if_eq (q := 39) (tgt := 54) hx (dc kX11_findLack_0 18 rfl) (by decide) Iff.rfl rfl ?_ ?_
    · refine j_iconst (q := 55) (v := (0 : Int32)) hx (dc kX11_findLack_0 26 rfl) (by decide) rfl ?_
      exact r_cW hx (Or.inl rfl) hR (dc kX11_findLack_0 27 rfl)
    · refine j_aload_n (q := 40) hx (dc kX11_findLack_0 19 rfl) rfl 1 rfl rfl ?_
      refine w_gR (q := 43) hx (dc kX11_findLack_0 20 rfl) ff_X11_3 lk_X11_33 rfl (fun v13 => ?_)
      refine j_iload_n (q := 44) hx (dc kX11_findLack_0 21 rfl) rfl 0 rfl rfl ?_
      refine j_aload_n (q := 45) hx (dc kX11_findLack_0 22 rfl) rfl 1 rfl rfl ?_
      refine w_gR (q := 48) hx (dc kX11_findLack_0 23 rfl) ff_X11_9 lk_X11_69 rfl (fun v14 => ?_)
      refine w_cVIR (q := 51) (As := [.int v3, vR x.2.2.2 v14]) (st := []) hx (dc kX11_findLack_0 24 rfl) cf1 (by decide) rfl (cI _ my_X1_barred lm_X11_452 (by decide)) vs_X1_barred rfl (fun u hu => sX1_barred _ _ _ _ _ _ _ hu) (fun e => ite_ne (by unfold mX1_barred at e; exact e)) (Nat.zero_le _) rfl (fun v15 => ?_)
      refine j_if_eq (q := 54) (tgt := 56) hx (dc kX11_findLack_0 25 rfl) (by decide) Iff.rfl rfl ?_ ?_
      · refine j_iconst (q := 57) (v := (0 : Int32)) hx (dc kX11_findLack_0 28 rfl) (by decide) rfl ?_
        refine j_istore_n (q := 58) (i := 3) (l2 := [(2, .int v3), (0, vR x.2.2.2 x0), (1, .int x1)]) hx (dc kX11_findLack_0 29 rfl) rfl (hn 3 (by decide)) [0, 1, 2] rfl ⟨⟨show (2 : Nat) ≠ 3 by decide, Or.inr rfl⟩, ⟨⟨show (0 : Nat) ≠ 3 by decide, Or.inl (show (0 : Nat) + 1 ≠ 3 by decide)⟩, ⟨⟨show (1 : Nat) ≠ 3 by decide, Or.inl (show (1 : Nat) + 1 ≠ 3 by decide)⟩, trivial⟩⟩⟩ rfl ?_
        exact j_sub [2, 3, 1, 0] rfl (hb58 x0 x1 v3 (0 : Int32) h2)
      · refine j_iconst (q := 55) (v := (0 : Int32)) hx (dc kX11_findLack_0 26 rfl) (by decide) rfl ?_
        exact r_cW hx (Or.inl rfl) hR (dc kX11_findLack_0 27 rfl)

set_option maxHeartbeats 4000000 in
set_option maxRecDepth 100000 in
theorem sX11_lacks (l : Launch) (w : Wd) (x0 : Nat) (x1 : Int32) (x2 : Int32) (h : Hp) (u : (Int32 × Hp)) (hK : mX11_lacks x0 x1 x2 h = some u) : M1 l w mi_X11_lacks 5 [vR w x0, .int x1, .int x2] h u.2 (some (.int u.1)) := by
  refine M1.of (own := RX11) (T := fun _ r => r = u) hK (by decide +kernel) rfl (by first | (simp only [lg_lenR, lg_lenI, lg_lenL, lg_len0]; decide) | decide) (fun x hx hnl hhf hl hw hret hnm hQ h0e => ⟨?_, rfl⟩)
  subst hw
  subst hl
  have hR : Rt x h u.2 (some (.int u.1)) ((some .int)) := ⟨h0e, hhf, hret, hQ⟩
  have hn : ∀ i, i < 3 → i < x.2.2.1.1.1 := fun i hi => by rw [hnl]; exact hi
  have e0 : lv_args 0 [vR x.2.2.2 x0, .int x1, .int x2] = [(0, vR x.2.2.2 x0), (1, .int x1), (2, .int x2)] := by simp only [lv_argsR, lv_argsI, lv_argsL, lv_args0]
  rw [e0]
  unfold mX11_lacks
  refine J.ckd fun hck => ?_
  refine j_aload_n (q := 1) hx (dc kX11_lacks_0 0 rfl) rfl 0 rfl rfl ?_
  refine j_iload_n (q := 2) hx (dc kX11_lacks_0 1 rfl) rfl 1 rfl rfl ?_
  refine w_cVIR (q := 5) (As := [.int x1]) (st := []) hx (dc kX11_lacks_0 2 rfl) cf11 (by decide) rfl (cI _ my_X11_isCount lm_X11_174 (by decide)) vs_X11_isCount rfl (fun u hu => sX11_isCount _ _ _ _ _ _ hu) (fun e => ite_ne (by unfold mX11_isCount at e; exact e)) (Nat.zero_le _) rfl (fun v1 => ?_)
  refine j_if_eq (q := 8) (tgt := 17) hx (dc kX11_lacks_0 3 rfl) (by decide) Iff.rfl rfl ?_ ?_
  · refine j_iconst (q := 18) (v := (-1 : Int32)) hx (dc kX11_lacks_0 9 rfl) (by decide) rfl ?_
    exact r_iW hx hR (dc kX11_lacks_0 10 rfl)
  · refine j_iload_n (q := 9) hx (dc kX11_lacks_0 4 rfl) rfl 2 rfl rfl ?_
    refine j_if_lt (q := 12) (tgt := 17) hx (dc kX11_lacks_0 5 rfl) (by decide) Iff.rfl rfl ?_ ?_
    · refine j_iconst (q := 18) (v := (-1 : Int32)) hx (dc kX11_lacks_0 9 rfl) (by decide) rfl ?_
      exact r_iW hx hR (dc kX11_lacks_0 10 rfl)
    · refine j_iload_n (q := 13) hx (dc kX11_lacks_0 6 rfl) rfl 2 rfl rfl ?_
      refine j_iconst (q := 14) (v := (2 : Int32)) hx (dc kX11_lacks_0 7 rfl) (by decide) rfl ?_
      refine j_icmp_leS (q := 17) (tgt := 19) hx (dc kX11_lacks_0 8 rfl) (by decide) rfl ?_ ?_
      · refine j_aload_n (q := 20) hx (dc kX11_lacks_0 11 rfl) rfl 0 rfl rfl ?_
        refine j_iload_n (q := 21) hx (dc kX11_lacks_0 12 rfl) rfl 1 rfl rfl ?_
        refine w_cVIW (q := 24) (As := [.int x1]) (st := []) hx (dc kX11_lacks_0 13 rfl) cf11 (by decide) rfl (cI _ my_X11_findLack lm_X11_316 (by decide)) vs_X11_findLack rfl (fun u hu => sX11_findLack _ _ _ _ _ _ hu) (fun e => ite_ne (by unfold mX11_findLack at e; exact e)) (Nat.zero_le _) rfl (fun v3 h4 => ?_)
        refine j_if_neS (q := 27) (tgt := 30) hx (dc kX11_lacks_0 14 rfl) (by decide) rfl ?_ ?_
        · refine j_iload_n (q := 31) hx (dc kX11_lacks_0 17 rfl) rfl 2 rfl rfl ?_
          refine j_if_neS (q := 34) (tgt := 47) hx (dc kX11_lacks_0 18 rfl) (by decide) rfl ?_ ?_
          · refine j_iload_n (q := 48) hx (dc kX11_lacks_0 24 rfl) rfl 2 rfl rfl ?_
            refine j_iconst (q := 49) (v := (1 : Int32)) hx (dc kX11_lacks_0 25 rfl) (by decide) rfl ?_
            refine j_icmp_neS (q := 52) (tgt := 62) hx (dc kX11_lacks_0 26 rfl) (by decide) rfl ?_ ?_
            · refine j_aload_n (q := 63) hx (dc kX11_lacks_0 31 rfl) rfl 0 rfl rfl ?_
              refine w_gR (q := 66) hx (dc kX11_lacks_0 32 rfl) ff_X11_13 lk_X11_89 rfl (fun v5 => ?_)
              refine w_gI (q := 69) hx (dc kX11_lacks_0 33 rfl) ff_X3_3 lk_X11_320 rfl (fun v6 => ?_)
              exact r_iW hx hR (dc kX11_lacks_0 34 rfl)
            · refine j_aload_n (q := 53) hx (dc kX11_lacks_0 27 rfl) rfl 0 rfl rfl ?_
              refine w_gR (q := 56) hx (dc kX11_lacks_0 28 rfl) ff_X11_13 lk_X11_89 rfl (fun v7 => ?_)
              refine w_gI (q := 59) hx (dc kX11_lacks_0 29 rfl) ff_X3_2 lk_X11_319 rfl (fun v8 => ?_)
              refine j_goto (q := 69) hx (dc kX11_lacks_0 30 rfl) (by decide) ?_
              exact r_iW hx hR (dc kX11_lacks_0 34 rfl)
          · refine j_aload_n (q := 35) hx (dc kX11_lacks_0 19 rfl) rfl 0 rfl rfl ?_
            refine w_gR (q := 38) hx (dc kX11_lacks_0 20 rfl) ff_X11_13 lk_X11_89 rfl (fun v9 => ?_)
            refine w_gI (q := 41) hx (dc kX11_lacks_0 21 rfl) ff_X3_2 lk_X11_319 rfl (fun v10 => ?_)
            refine w_cSIR (q := 44) (As := [.int v10]) (st := []) hx (dc kX11_lacks_0 22 rfl) (cI _ my_J6_bitCount_0f7a4 lm_X11_252 (by decide)) st_J6_bitCount_0f7a4 rfl (fun u hu => sJ6_bitCount_0f7a4 _ _ _ _ _ hu) (Nat.zero_le _) rfl (fun v11 => ?_)
            refine j_goto (q := 69) hx (dc kX11_lacks_0 23 rfl) (by decide) ?_
            exact r_iW hx hR (dc kX11_lacks_0 34 rfl)
        · refine j_bipush (q := 29) (v := (-2 : Int32)) hx (dc kX11_lacks_0 15 rfl) (by decide) rfl ?_
          exact r_iW hx hR (dc kX11_lacks_0 16 rfl)
      · refine j_iconst (q := 18) (v := (-1 : Int32)) hx (dc kX11_lacks_0 9 rfl) (by decide) rfl ?_
        exact r_iW hx hR (dc kX11_lacks_0 10 rfl)

set_option maxHeartbeats 4000000 in
set_option maxRecDepth 100000 in
theorem sX11_grown (l : Launch) (w : Wd) (x0 : Nat) (x1 : Int32) (x2 : Int32) (h : Hp) (u : Int32) (hK : mX11_grown x0 x1 x2 h = some u) : M1 l w mi_X11_grown 2 [vR w x0, .int x1, .int x2] h h (some (.int u)) := by
  refine M1.of (own := RX11) (T := fun _ r => r = u) hK (by decide +kernel) rfl (by first | (simp only [lg_lenR, lg_lenI, lg_lenL, lg_len0]; decide) | decide) (fun x hx hnl hhf hl hw hret hnm hQ h0e => ⟨?_, rfl⟩)
  subst hw
  subst hl
  have hR : Rt x h h (some (.int u)) ((some .int)) := ⟨h0e, hhf, hret, hQ⟩
  have hn : ∀ i, i < 6 → i < x.2.2.1.1.1 := fun i hi => by rw [hnl]; exact hi
  have e0 : lv_args 0 [vR x.2.2.2 x0, .int x1, .int x2] = [(0, vR x.2.2.2 x0), (1, .int x1), (2, .int x2)] := by simp only [lv_argsR, lv_argsI, lv_argsL, lv_args0]
  rw [e0]
  have hb65 : ∀ (x3 : Int64), J x 65 [(3, .long x3)] [] h (mX11_grown_b65 x3 h) (fun r => r = u) := by
    intro x3
    unfold mX11_grown_b65
    refine j_lload_n (q := 66) hx (dc kX11_grown_0 35 rfl) rfl 0 rfl rfl ?_
    refine j_ldc2 (q := 69) hx kl_X11_321 (dc kX11_grown_0 36 rfl) rfl ?_
    refine j_lcmp (q := 70) hx (dc kX11_grown_0 37 rfl) rfl ?_
    refine j_if_leS (q := 73) (tgt := 78) hx (dc kX11_grown_0 38 rfl) (by decide) rfl ?_ ?_
    · refine j_lload_n (q := 79) hx (dc kX11_grown_0 41 rfl) rfl 0 rfl rfl ?_
      refine j_l2i (q := 80) hx (dc kX11_grown_0 42 rfl) rfl ?_
      exact r_iR hx hR (dc kX11_grown_0 43 rfl)
    · refine j_bipush (q := 75) (v := (-2 : Int32)) hx (dc kX11_grown_0 39 rfl) (by decide) rfl ?_
      refine j_goto (q := 80) hx (dc kX11_grown_0 40 rfl) (by decide) ?_
      exact r_iR hx hR (dc kX11_grown_0 43 rfl)
  have hb37 : ∀ (x2 : Int32) (x3 : Int64) (x5 : Int32), J x 37 [(2, .int x2), (3, .long x3), (5, .int x5)] [] h (mX11_grown_l37 x2 x3 x5 h) (fun r => r = u) := by
    intro x2 x3 x5
    have hB : ∀ (x3 : Int64) (x5 : Int32), J x 37 [(2, .int x2), (3, .long x3), (5, .int x5)] [] h (mX11_grown_l37f x2 h x3 x5) (TLo (S := (Int64 × Int32)) x 37 (fun s => [(2, .int x2), (3, .long s.1), (5, .int s.2)]) [] (fun s => h) (fun r => r = u)) := by
      intro x3 x5
      unfold mX11_grown_l37f
      refine j_iload (q := 39) hx (dc kX11_grown_0 20 rfl) 2 rfl rfl ?_
      refine j_iload_n (q := 40) hx (dc kX11_grown_0 21 rfl) rfl 0 rfl rfl ?_
      refine j_icmp_geS (q := 43) (tgt := 65) hx (dc kX11_grown_0 22 rfl) (by decide) rfl ?_ ?_
      · refine j_exit ?_
        exact j_sub [1] rfl (hb65 x3)
      · refine j_lload_n (q := 44) hx (dc kX11_grown_0 23 rfl) rfl 1 rfl rfl ?_
        refine j_ldc2 (q := 47) hx kl_X11_321 (dc kX11_grown_0 24 rfl) rfl ?_
        refine j_lcmp (q := 48) hx (dc kX11_grown_0 25 rfl) rfl ?_
        refine j_if_gt (q := 51) (tgt := 65) hx (dc kX11_grown_0 26 rfl) (by decide) Iff.rfl rfl ?_ ?_
        · refine j_exit ?_
          exact j_sub [1] rfl (hb65 x3)
        · refine j_lload_n (q := 52) hx (dc kX11_grown_0 27 rfl) rfl 1 rfl rfl ?_
          refine j_lload_n (q := 53) hx (dc kX11_grown_0 28 rfl) rfl 1 rfl rfl ?_
          refine j_ldc2 (q := 56) hx kl_X11_323 (dc kX11_grown_0 29 rfl) rfl ?_
          refine j_ldiv (q := 57) hx (dc kX11_grown_0 30 rfl) rfl ?_
          refine j_ladd (q := 58) hx (dc kX11_grown_0 31 rfl) rfl ?_
          refine j_lstore_n (q := 59) (i := 3) (l2 := [(2, .int x2), (5, .int x5)]) hx (dc kX11_grown_0 32 rfl) rfl (hn 4 (by decide)) [0, 2] rfl ⟨⟨show (2 : Nat) ≠ 3 by decide, Or.inr rfl⟩, ⟨⟨show (5 : Nat) ≠ 3 by decide, Or.inl (show (5 : Nat) + 1 ≠ 3 by decide)⟩, trivial⟩⟩ (by simp) rfl ?_
          refine j_iinc (q := 62) (l2 := [(3, .long (x3 + (x3 / (10 : Int64)))), (2, .int x2)]) hx (dc kX11_grown_0 33 rfl) 2 rfl (v := (1 : Int32)) (by decide) (hn 5 (by decide)) [0, 1] rfl ⟨⟨show (3 : Nat) ≠ 5 by decide, Or.inl (show (3 : Nat) + 1 ≠ 5 by decide)⟩, ⟨⟨show (2 : Nat) ≠ 5 by decide, Or.inl (show (2 : Nat) + 1 ≠ 5 by decide)⟩, trivial⟩⟩ rfl ?_
          refine j_goto (q := 37) hx (dc kX11_grown_0 34 rfl) (by decide) ?_
          exact j_back [2, 1, 0] ((x3 + (x3 / (10 : Int64))), (x5 + (1 : Int32))) rfl rfl
    exact j_loop (S := (Int64 × Int32)) (lvf := fun s => [(2, .int x2), (3, .long s.1), (5, .int s.2)]) (hpf := fun s => h) (f := (fun s : (Int64 × Int32) => mX11_grown_l37f x2 h s.1 s.2)) (fun s => hB s.1 s.2) (x3, x5)
  unfold mX11_grown
  refine J.ckd fun hck => ?_
  refine j_aload_n (q := 1) hx (dc kX11_grown_0 0 rfl) rfl 0 rfl rfl ?_
  refine j_iload_n (q := 2) hx (dc kX11_grown_0 1 rfl) rfl 1 rfl rfl ?_
  refine w_cVIR (q := 5) (As := [.int x1]) (st := []) hx (dc kX11_grown_0 2 rfl) cf11 (by decide) rfl (cI _ my_X11_isCount lm_X11_174 (by decide)) vs_X11_isCount rfl (fun u hu => sX11_isCount _ _ _ _ _ _ hu) (fun e => ite_ne (by unfold mX11_isCount at e; exact e)) (Nat.zero_le _) rfl (fun v1 => ?_)
  refine j_if_eq (q := 8) (tgt := 19) hx (dc kX11_grown_0 3 rfl) (by decide) Iff.rfl rfl ?_ ?_
  · refine j_iconst (q := 20) (v := (-1 : Int32)) hx (dc kX11_grown_0 9 rfl) (by decide) rfl ?_
    exact r_iR hx hR (dc kX11_grown_0 10 rfl)
  · refine j_iload_n (q := 9) hx (dc kX11_grown_0 4 rfl) rfl 2 rfl rfl ?_
    refine j_if_lt (q := 12) (tgt := 19) hx (dc kX11_grown_0 5 rfl) (by decide) Iff.rfl rfl ?_ ?_
    · refine j_iconst (q := 20) (v := (-1 : Int32)) hx (dc kX11_grown_0 9 rfl) (by decide) rfl ?_
      exact r_iR hx hR (dc kX11_grown_0 10 rfl)
    · refine j_iload_n (q := 13) hx (dc kX11_grown_0 6 rfl) rfl 2 rfl rfl ?_
      refine j_sipush (q := 16) (v := (400 : Int32)) hx (dc kX11_grown_0 7 rfl) (by decide) rfl ?_
      refine j_icmp_leS (q := 19) (tgt := 21) hx (dc kX11_grown_0 8 rfl) (by decide) rfl ?_ ?_
      · refine j_aload_n (q := 22) hx (dc kX11_grown_0 11 rfl) rfl 0 rfl rfl ?_
        refine w_gR (q := 25) hx (dc kX11_grown_0 12 rfl) ff_X11_5 lk_X11_43 rfl (fun v3 => ?_)
        refine w_gR (q := 28) hx (dc kX11_grown_0 13 rfl) ff_X5_10 lk_X11_177 rfl (fun v4 => ?_)
        refine j_iload_n (q := 29) hx (dc kX11_grown_0 14 rfl) rfl 1 rfl rfl ?_
        refine w_cSIR (q := 32) (As := [vR x.2.2.2 v4, .int x1]) (st := []) hx (dc kX11_grown_0 15 rfl) (cI _ my_X11_at lm_X11_152 (by decide)) st_X11_at rfl (fun u hu => sX11_at _ _ _ _ _ _ hu) (Nat.zero_le _) rfl (fun v5 => ?_)
        refine j_i2l (q := 33) hx (dc kX11_grown_0 16 rfl) rfl ?_
        refine j_lstore_n (q := 34) (i := 3) (l2 := [(2, .int x2)]) hx (dc kX11_grown_0 17 rfl) rfl (hn 4 (by decide)) [2] rfl ⟨⟨show (2 : Nat) ≠ 3 by decide, Or.inr rfl⟩, trivial⟩ (by simp) rfl ?_
        refine j_iconst (q := 35) (v := (0 : Int32)) hx (dc kX11_grown_0 18 rfl) (by decide) rfl ?_
        refine j_istore (q := 37) (i := 5) (l2 := [(3, .long v5.toInt64), (2, .int x2)]) hx (dc kX11_grown_0 19 rfl) (hn 5 (by decide)) [0, 1] rfl ⟨⟨show (3 : Nat) ≠ 5 by decide, Or.inl (show (3 : Nat) + 1 ≠ 5 by decide)⟩, ⟨⟨show (2 : Nat) ≠ 5 by decide, Or.inl (show (2 : Nat) + 1 ≠ 5 by decide)⟩, trivial⟩⟩ rfl ?_
        exact j_sub [2, 1, 0] rfl (hb37 x2 v5.toInt64 (0 : Int32))
      · refine j_iconst (q := 20) (v := (-1 : Int32)) hx (dc kX11_grown_0 9 rfl) (by decide) rfl ?_
        exact r_iR hx hR (dc kX11_grown_0 10 rfl)

set_option maxHeartbeats 4000000 in
set_option maxRecDepth 100000 in
theorem sX11_turningFacts (l : Launch) (w : Wd) (x0 : Nat) (x1 : Int32) (x2 : Nat) (h : Hp) (u : Int32) (hK : mX11_turningFacts x0 x1 x2 h = some u) : M1 l w mi_X11_turningFacts 2 [vR w x0, .int x1, vR w x2] h h (some (.int u)) := by
  refine M1.of (own := RX11) (T := fun _ r => r = u) hK (by decide +kernel) rfl (by first | (simp only [lg_lenR, lg_lenI, lg_lenL, lg_len0]; decide) | decide) (fun x hx hnl hhf hl hw hret hnm hQ h0e => ⟨?_, rfl⟩)
  subst hw
  subst hl
  have hR : Rt x h h (some (.int u)) ((some .int)) := ⟨h0e, hhf, hret, hQ⟩
  have hn : ∀ i, i < 6 → i < x.2.2.1.1.1 := fun i hi => by rw [hnl]; exact hi
  have e0 : lv_args 0 [vR x.2.2.2 x0, .int x1, vR x.2.2.2 x2] = [(0, vR x.2.2.2 x0), (1, .int x1), (2, vR x.2.2.2 x2)] := by simp only [lv_argsR, lv_argsI, lv_argsL, lv_args0]
  rw [e0]
  have hb5 : ∀ (x0 : Nat) (x1 : Int32) (x2 : Nat) (x3 : Int32) (x4 : Int32), J x 5 [(0, vR x.2.2.2 x0), (1, .int x1), (2, vR x.2.2.2 x2), (3, .int x3), (4, .int x4)] [] h (mX11_turningFacts_l5 x0 x1 x2 x3 x4 h) (fun r => r = u) := by
    intro x0 x1 x2 x3 x4
    have hB : ∀ (x3 : Int32) (x4 : Int32), J x 5 [(0, vR x.2.2.2 x0), (1, .int x1), (2, vR x.2.2.2 x2), (3, .int x3), (4, .int x4)] [] h (mX11_turningFacts_l5f x0 x1 x2 h x3 x4) (TLo (S := (Int32 × Int32)) x 5 (fun s => [(0, vR x.2.2.2 x0), (1, .int x1), (2, vR x.2.2.2 x2), (3, .int s.1), (4, .int s.2)]) [] (fun s => h) (fun r => r = u)) := by
      intro x3 x4
      have hb60 : ∀ (x0 : Nat) (x1 : Int32) (x2 : Nat) (x3 : Int32) (x4 : Int32), J x 60 [(0, vR x.2.2.2 x0), (1, .int x1), (2, vR x.2.2.2 x2), (3, .int x3), (4, .int x4)] [] h (mX11_turningFacts_b60 x0 x1 x2 x3 x4 h) (TLo (S := (Int32 × Int32)) x 5 (fun s => [(0, vR x.2.2.2 x0), (1, .int x1), (2, vR x.2.2.2 x2), (3, .int s.1), (4, .int s.2)]) [] (fun s => h) (fun r => r = u)) := by
        intro x0 x1 x2 x3 x4
        unfold mX11_turningFacts_b60
        refine j_iinc (q := 63) (l2 := [(0, vR x.2.2.2 x0), (1, .int x1), (2, vR x.2.2.2 x2), (3, .int x3)]) hx (dc kX11_turningFacts_0 33 rfl) 4 rfl (v := (1 : Int32)) (by decide) (hn 4 (by decide)) [0, 1, 2, 3] rfl ⟨⟨show (0 : Nat) ≠ 4 by decide, Or.inl (show (0 : Nat) + 1 ≠ 4 by decide)⟩, ⟨⟨show (1 : Nat) ≠ 4 by decide, Or.inl (show (1 : Nat) + 1 ≠ 4 by decide)⟩, ⟨⟨show (2 : Nat) ≠ 4 by decide, Or.inl (show (2 : Nat) + 1 ≠ 4 by decide)⟩, ⟨⟨show (3 : Nat) ≠ 4 by decide, Or.inr rfl⟩, trivial⟩⟩⟩⟩ rfl ?_
        refine j_goto (q := 5) hx (dc kX11_turningFacts_0 34 rfl) (by decide) ?_
        exact j_back [1, 2, 3, 4, 0] (x3, (x4 + (1 : Int32))) rfl rfl
      unfold mX11_turningFacts_l5f
      refine j_iload (q := 7) hx (dc kX11_turningFacts_0 4 rfl) 4 rfl rfl ?_
      refine j_aload_n (q := 8) hx (dc kX11_turningFacts_0 5 rfl) rfl 0 rfl rfl ?_
      refine w_gR (q := 11) hx (dc kX11_turningFacts_0 6 rfl) ff_X11_3 lk_X11_33 rfl (fun v1 => ?_)
      refine w_gI (q := 14) hx (dc kX11_turningFacts_0 7 rfl) ff_X1_1 lk_X11_243 rfl (fun v2 => ?_)
      refine j_icmp_geS (q := 17) (tgt := 66) hx (dc kX11_turningFacts_0 8 rfl) (by decide) rfl ?_ ?_
      · refine j_exit ?_
        refine j_iload_n (q := 67) hx (dc kX11_turningFacts_0 35 rfl) rfl 3 rfl rfl ?_
        exact r_iR hx hR (dc kX11_turningFacts_0 36 rfl)
      · refine j_iload (q := 19) hx (dc kX11_turningFacts_0 9 rfl) 4 rfl rfl ?_
        refine j_bipush (q := 21) (v := (8 : Int32)) hx (dc kX11_turningFacts_0 10 rfl) (by decide) rfl ?_
        refine j_icmp_geS (q := 24) (tgt := 66) hx (dc kX11_turningFacts_0 11 rfl) (by decide) rfl ?_ ?_
        · refine j_exit ?_
          refine j_iload_n (q := 67) hx (dc kX11_turningFacts_0 35 rfl) rfl 3 rfl rfl ?_
          exact r_iR hx hR (dc kX11_turningFacts_0 36 rfl)
        · refine j_iload_n (q := 25) hx (dc kX11_turningFacts_0 12 rfl) rfl 1 rfl rfl ?_
          refine j_iconst (q := 26) (v := (1 : Int32)) hx (dc kX11_turningFacts_0 13 rfl) (by decide) rfl ?_
          refine j_iload (q := 28) hx (dc kX11_turningFacts_0 14 rfl) 4 rfl rfl ?_
          refine j_ishl (q := 29) hx (dc kX11_turningFacts_0 15 rfl) rfl ?_
          refine j_ixor (q := 30) hx (dc kX11_turningFacts_0 16 rfl) rfl ?_
          refine j_istore (q := 32) (i := 5) (l2 := [(0, vR x.2.2.2 x0), (1, .int x1), (2, vR x.2.2.2 x2), (3, .int x3), (4, .int x4)]) hx (dc kX11_turningFacts_0 17 rfl) (hn 5 (by decide)) [0, 1, 2, 3, 4] rfl ⟨⟨show (0 : Nat) ≠ 5 by decide, Or.inl (show (0 : Nat) + 1 ≠ 5 by decide)⟩, ⟨⟨show (1 : Nat) ≠ 5 by decide, Or.inl (show (1 : Nat) + 1 ≠ 5 by decide)⟩, ⟨⟨show (2 : Nat) ≠ 5 by decide, Or.inl (show (2 : Nat) + 1 ≠ 5 by decide)⟩, ⟨⟨show (3 : Nat) ≠ 5 by decide, Or.inl (show (3 : Nat) + 1 ≠ 5 by decide)⟩, ⟨⟨show (4 : Nat) ≠ 5 by decide, Or.inr rfl⟩, trivial⟩⟩⟩⟩⟩ rfl ?_
          refine j_aload_n (q := 33) hx (dc kX11_turningFacts_0 18 rfl) rfl 1 rfl rfl ?_
          refine w_gR (q := 36) hx (dc kX11_turningFacts_0 19 rfl) ff_X11_9 lk_X11_69 rfl (fun v3 => ?_)
          refine j_iload (q := 38) hx (dc kX11_turningFacts_0 20 rfl) 0 rfl rfl ?_
          refine w_cVIR (q := 41) (As := [.int (x1 ^^^ ((1 : Int32) <<< (x4 &&& 31)))]) (st := []) hx (dc kX11_turningFacts_0 21 rfl) cf10 (by decide) rfl (cI _ my_X10_holds lm_X11_325 (by decide)) vs_X10_holds rfl (fun u hu => sX10_holds _ _ _ _ _ _ hu) (fun e => ite_ne (by unfold mX10_holds at e; exact e)) (Nat.zero_le _) rfl (fun v4 => ?_)
          refine j_if_eq (q := 44) (tgt := 60) hx (dc kX11_turningFacts_0 22 rfl) (by decide) Iff.rfl rfl ?_ ?_
          · exact j_sub [1, 2, 3, 4, 5] rfl (hb60 x0 x1 x2 x3 x4)
          · refine j_aload_n (q := 45) hx (dc kX11_turningFacts_0 23 rfl) rfl 3 rfl rfl ?_
            refine j_iload (q := 47) hx (dc kX11_turningFacts_0 24 rfl) 0 rfl rfl ?_
            refine w_cVIR (q := 50) (As := [.int (x1 ^^^ ((1 : Int32) <<< (x4 &&& 31)))]) (st := []) hx (dc kX11_turningFacts_0 25 rfl) cf10 (by decide) rfl (cI _ my_X10_holds lm_X11_325 (by decide)) vs_X10_holds rfl (fun u hu => sX10_holds _ _ _ _ _ _ hu) (fun e => ite_ne (by unfold mX10_holds at e; exact e)) (Nat.zero_le _) rfl (fun v6 => ?_)
            refine j_if_neS (q := 53) (tgt := 60) hx (dc kX11_turningFacts_0 26 rfl) (by decide) rfl ?_ ?_
            · exact j_sub [1, 2, 3, 4, 5] rfl (hb60 x0 x1 x2 x3 x4)
            · refine j_iload_n (q := 54) hx (dc kX11_turningFacts_0 27 rfl) rfl 4 rfl rfl ?_
              refine j_iconst (q := 55) (v := (1 : Int32)) hx (dc kX11_turningFacts_0 28 rfl) (by decide) rfl ?_
              refine j_iload (q := 57) hx (dc kX11_turningFacts_0 29 rfl) 5 rfl rfl ?_
              refine j_ishl (q := 58) hx (dc kX11_turningFacts_0 30 rfl) rfl ?_
              refine j_ior (q := 59) hx (dc kX11_turningFacts_0 31 rfl) rfl ?_
              refine j_istore_n (q := 60) (i := 3) (l2 := [(0, vR x.2.2.2 x0), (1, .int x1), (2, vR x.2.2.2 x2), (4, .int x4)]) hx (dc kX11_turningFacts_0 32 rfl) rfl (hn 3 (by decide)) [1, 2, 3, 5] rfl ⟨⟨show (0 : Nat) ≠ 3 by decide, Or.inl (show (0 : Nat) + 1 ≠ 3 by decide)⟩, ⟨⟨show (1 : Nat) ≠ 3 by decide, Or.inl (show (1 : Nat) + 1 ≠ 3 by decide)⟩, ⟨⟨show (2 : Nat) ≠ 3 by decide, Or.inr (vR_cat _ _)⟩, ⟨⟨show (4 : Nat) ≠ 3 by decide, Or.inl (show (4 : Nat) + 1 ≠ 3 by decide)⟩, trivial⟩⟩⟩⟩ rfl ?_
              exact j_sub [1, 2, 3, 0, 4] rfl (hb60 x0 x1 x2 (x3 ||| ((1 : Int32) <<< (x4 &&& 31))) x4)
    exact j_loop (S := (Int32 × Int32)) (lvf := fun s => [(0, vR x.2.2.2 x0), (1, .int x1), (2, vR x.2.2.2 x2), (3, .int s.1), (4, .int s.2)]) (hpf := fun s => h) (f := (fun s : (Int32 × Int32) => mX11_turningFacts_l5f x0 x1 x2 h s.1 s.2)) (fun s => hB s.1 s.2) (x3, x4)
  unfold mX11_turningFacts
  refine J.ckd fun hck => ?_
  refine j_iconst (q := 1) (v := (0 : Int32)) hx (dc kX11_turningFacts_0 0 rfl) (by decide) rfl ?_
  refine j_istore_n (q := 2) (i := 3) (l2 := [(0, vR x.2.2.2 x0), (1, .int x1), (2, vR x.2.2.2 x2)]) hx (dc kX11_turningFacts_0 1 rfl) rfl (hn 3 (by decide)) [0, 1, 2] rfl ⟨⟨show (0 : Nat) ≠ 3 by decide, Or.inl (show (0 : Nat) + 1 ≠ 3 by decide)⟩, ⟨⟨show (1 : Nat) ≠ 3 by decide, Or.inl (show (1 : Nat) + 1 ≠ 3 by decide)⟩, ⟨⟨show (2 : Nat) ≠ 3 by decide, Or.inr (vR_cat _ _)⟩, trivial⟩⟩⟩ rfl ?_
  refine j_iconst (q := 3) (v := (0 : Int32)) hx (dc kX11_turningFacts_0 2 rfl) (by decide) rfl ?_
  refine j_istore (q := 5) (i := 4) (l2 := [(3, .int (0 : Int32)), (0, vR x.2.2.2 x0), (1, .int x1), (2, vR x.2.2.2 x2)]) hx (dc kX11_turningFacts_0 3 rfl) (hn 4 (by decide)) [0, 1, 2, 3] rfl ⟨⟨show (3 : Nat) ≠ 4 by decide, Or.inr rfl⟩, ⟨⟨show (0 : Nat) ≠ 4 by decide, Or.inl (show (0 : Nat) + 1 ≠ 4 by decide)⟩, ⟨⟨show (1 : Nat) ≠ 4 by decide, Or.inl (show (1 : Nat) + 1 ≠ 4 by decide)⟩, ⟨⟨show (2 : Nat) ≠ 4 by decide, Or.inl (show (2 : Nat) + 1 ≠ 4 by decide)⟩, trivial⟩⟩⟩⟩ rfl ?_
  exact j_sub [2, 3, 4, 1, 0] rfl (hb5 x0 x1 x2 (0 : Int32) (0 : Int32))

set_option maxHeartbeats 4000000 in
set_option maxRecDepth 100000 in
theorem sX11_issues (l : Launch) (w : Wd) (x0 : Nat) (x1 : Int32) (h : Hp) (u : (Int32 × Hp)) (hK : mX11_issues x0 x1 h = some u) : M1 l w mi_X11_issues 4 [vR w x0, .int x1] h u.2 (some (.int u.1)) := by
  refine M1.of (own := RX11) (T := fun _ r => r = u) hK (by decide +kernel) rfl (by first | (simp only [lg_lenR, lg_lenI, lg_lenL, lg_len0]; decide) | decide) (fun x hx hnl hhf hl hw hret hnm hQ h0e => ⟨?_, rfl⟩)
  subst hw
  subst hl
  have hR : Rt x h u.2 (some (.int u.1)) ((some .int)) := ⟨h0e, hhf, hret, hQ⟩
  have hn : ∀ i, i < 5 → i < x.2.2.1.1.1 := fun i hi => by rw [hnl]; exact hi
  have e0 : lv_args 0 [vR x.2.2.2 x0, .int x1] = [(0, vR x.2.2.2 x0), (1, .int x1)] := by simp only [lv_argsR, lv_argsI, lv_argsL, lv_args0]
  rw [e0]
  have hb32 : ∀ (x0 : Nat) (x2 : Nat) (x3 : Int32) (x4 : Int32) (h : Hp), J x 32 [(0, vR x.2.2.2 x0), (2, vR x.2.2.2 x2), (3, .int x3), (4, .int x4)] [] h (mX11_issues_l32 x0 x2 x3 x4 h) (fun r => r = u) := by
    intro x0 x2 x3 x4 h
    have hB : ∀ (x3 : Int32) (x4 : Int32), J x 32 [(0, vR x.2.2.2 x0), (2, vR x.2.2.2 x2), (3, .int x3), (4, .int x4)] [] h (mX11_issues_l32f x0 x2 h x3 x4) (TLo (S := (Int32 × Int32)) x 32 (fun s => [(0, vR x.2.2.2 x0), (2, vR x.2.2.2 x2), (3, .int s.1), (4, .int s.2)]) [] (fun s => h) (fun r => r = u)) := by
      intro x3 x4
      have hb71 : ∀ (x0 : Nat) (x2 : Nat) (x3 : Int32) (x4 : Int32) (h : Hp), J x 71 [(0, vR x.2.2.2 x0), (2, vR x.2.2.2 x2), (3, .int x3), (4, .int x4)] [] h (mX11_issues_b71 x0 x2 x3 x4 h) (TLo (S := (Int32 × Int32)) x 32 (fun s => [(0, vR x.2.2.2 x0), (2, vR x.2.2.2 x2), (3, .int s.1), (4, .int s.2)]) [] (fun s => h) (fun r => r = u)) := by
        intro x0 x2 x3 x4 h
        unfold mX11_issues_b71
        refine j_iinc (q := 74) (l2 := [(0, vR x.2.2.2 x0), (2, vR x.2.2.2 x2), (3, .int x3)]) hx (dc kX11_issues_0 38 rfl) 3 rfl (v := (1 : Int32)) (by decide) (hn 4 (by decide)) [0, 1, 2] rfl ⟨⟨show (0 : Nat) ≠ 4 by decide, Or.inl (show (0 : Nat) + 1 ≠ 4 by decide)⟩, ⟨⟨show (2 : Nat) ≠ 4 by decide, Or.inl (show (2 : Nat) + 1 ≠ 4 by decide)⟩, ⟨⟨show (3 : Nat) ≠ 4 by decide, Or.inr rfl⟩, trivial⟩⟩⟩ rfl ?_
        refine j_goto (q := 32) hx (dc kX11_issues_0 39 rfl) (by decide) ?_
        exact j_back [1, 2, 3, 0] (x3, (x4 + (1 : Int32))) rfl rfl
      unfold mX11_issues_l32f
      refine j_iload (q := 34) hx (dc kX11_issues_0 19 rfl) 3 rfl rfl ?_
      refine j_sipush (q := 37) (v := (256 : Int32)) hx (dc kX11_issues_0 20 rfl) (by decide) rfl ?_
      refine j_icmp_geS (q := 40) (tgt := 77) hx (dc kX11_issues_0 21 rfl) (by decide) rfl ?_ ?_
      · refine j_exit ?_
        refine j_iload_n (q := 78) hx (dc kX11_issues_0 40 rfl) rfl 2 rfl rfl ?_
        exact r_iW hx hR (dc kX11_issues_0 41 rfl)
      · refine j_aload_n (q := 41) hx (dc kX11_issues_0 22 rfl) rfl 0 rfl rfl ?_
        refine w_gR (q := 44) hx (dc kX11_issues_0 23 rfl) ff_X11_9 lk_X11_69 rfl (fun v10 => ?_)
        refine j_iload (q := 46) hx (dc kX11_issues_0 24 rfl) 3 rfl rfl ?_
        refine w_cVIR (q := 49) (As := [.int x4]) (st := []) hx (dc kX11_issues_0 25 rfl) cf10 (by decide) rfl (cI _ my_X10_holds lm_X11_325 (by decide)) vs_X10_holds rfl (fun u hu => sX10_holds _ _ _ _ _ _ hu) (fun e => ite_ne (by unfold mX10_holds at e; exact e)) (Nat.zero_le _) rfl (fun v11 => ?_)
        refine j_if_eq (q := 52) (tgt := 71) hx (dc kX11_issues_0 26 rfl) (by decide) Iff.rfl rfl ?_ ?_
        · exact hb71 x0 x2 x3 x4 h
        · refine j_aload_n (q := 53) hx (dc kX11_issues_0 27 rfl) rfl 1 rfl rfl ?_
          refine j_iload (q := 55) hx (dc kX11_issues_0 28 rfl) 3 rfl rfl ?_
          refine w_cVIR (q := 58) (As := [.int x4]) (st := []) hx (dc kX11_issues_0 29 rfl) cf10 (by decide) rfl (cI _ my_X10_holds lm_X11_325 (by decide)) vs_X10_holds rfl (fun u hu => sX10_holds _ _ _ _ _ _ hu) (fun e => ite_ne (by unfold mX10_holds at e; exact e)) (Nat.zero_le _) rfl (fun v13 => ?_)
          refine j_if_eq (q := 61) (tgt := 71) hx (dc kX11_issues_0 30 rfl) (by decide) Iff.rfl rfl ?_ ?_
          · exact hb71 x0 x2 x3 x4 h
          · refine j_iload_n (q := 62) hx (dc kX11_issues_0 31 rfl) rfl 2 rfl rfl ?_
            refine j_aload_n (q := 63) hx (dc kX11_issues_0 32 rfl) rfl 0 rfl rfl ?_
            refine j_iload (q := 65) hx (dc kX11_issues_0 33 rfl) 3 rfl rfl ?_
            refine j_aload_n (q := 66) hx (dc kX11_issues_0 34 rfl) rfl 1 rfl rfl ?_
            refine w_cVIR (q := 69) (As := [.int x4, vR x.2.2.2 x2]) (st := [.int x3]) hx (dc kX11_issues_0 35 rfl) cf11 (by decide) rfl (cI _ my_X11_turningFacts lm_X11_328 (by decide)) vs_X11_turningFacts rfl (fun u hu => sX11_turningFacts _ _ _ _ _ _ _ hu) (fun e => ite_ne (by unfold mX11_turningFacts at e; exact e)) (sum_le (sum_I sum_nil) (by decide)) rfl (fun v15 => ?_)
            refine j_ior (q := 70) hx (dc kX11_issues_0 36 rfl) rfl ?_
            refine j_istore_n (q := 71) (i := 3) (l2 := [(0, vR x.2.2.2 x0), (2, vR x.2.2.2 x2), (4, .int x4)]) hx (dc kX11_issues_0 37 rfl) rfl (hn 3 (by decide)) [0, 1, 3] rfl ⟨⟨show (0 : Nat) ≠ 3 by decide, Or.inl (show (0 : Nat) + 1 ≠ 3 by decide)⟩, ⟨⟨show (2 : Nat) ≠ 3 by decide, Or.inr (vR_cat _ _)⟩, ⟨⟨show (4 : Nat) ≠ 3 by decide, Or.inl (show (4 : Nat) + 1 ≠ 3 by decide)⟩, trivial⟩⟩⟩ rfl ?_
            exact j_sub [1, 2, 0, 3] rfl (hb71 x0 x2 (x3 ||| v15) x4 h)
    exact j_loop (S := (Int32 × Int32)) (lvf := fun s => [(0, vR x.2.2.2 x0), (2, vR x.2.2.2 x2), (3, .int s.1), (4, .int s.2)]) (hpf := fun s => h) (f := (fun s : (Int32 × Int32) => mX11_issues_l32f x0 x2 h s.1 s.2)) (fun s => hB s.1 s.2) (x3, x4)
  unfold mX11_issues
  refine J.ckd fun hck => ?_
  refine j_aload_n (q := 1) hx (dc kX11_issues_0 0 rfl) rfl 0 rfl rfl ?_
  refine j_iload_n (q := 2) hx (dc kX11_issues_0 1 rfl) rfl 1 rfl rfl ?_
  refine w_cVIR (q := 5) (As := [.int x1]) (st := []) hx (dc kX11_issues_0 2 rfl) cf11 (by decide) rfl (cI _ my_X11_isCount lm_X11_174 (by decide)) vs_X11_isCount rfl (fun u hu => sX11_isCount _ _ _ _ _ _ hu) (fun e => ite_ne (by unfold mX11_isCount at e; exact e)) (Nat.zero_le _) rfl (fun v1 => ?_)
  refine j_if_neS (q := 8) (tgt := 10) hx (dc kX11_issues_0 3 rfl) (by decide) rfl ?_ ?_
  · refine j_aload_n (q := 11) hx (dc kX11_issues_0 6 rfl) rfl 0 rfl rfl ?_
    refine w_cVVW (q := 14) (As := []) (st := []) hx (dc kX11_issues_0 7 rfl) cf11 (by decide) rfl (cI _ my_X11_remember lm_X11_204 (by decide)) vs_X11_remember rfl (fun u hu => sX11_remember _ _ _ _ _ hu) (fun e => ite_ne (by unfold mX11_remember at e; exact e)) (Nat.zero_le _) rfl (fun h4 => ?_)
    refine j_aload_n (q := 15) hx (dc kX11_issues_0 8 rfl) rfl 0 rfl rfl ?_
    refine w_gR (q := 18) hx (dc kX11_issues_0 9 rfl) ff_X11_3 lk_X11_33 rfl (fun v5 => ?_)
    refine j_aload_n (q := 19) hx (dc kX11_issues_0 10 rfl) rfl 0 rfl rfl ?_
    refine j_iload_n (q := 20) hx (dc kX11_issues_0 11 rfl) rfl 1 rfl rfl ?_
    refine w_cVIR (q := 23) (As := [.int x1]) (st := [vR x.2.2.2 v5]) hx (dc kX11_issues_0 12 rfl) cf11 (by decide) rfl (cI _ my_X11_kind lm_X11_192 (by decide)) vs_X11_kind rfl (fun u hu => sX11_kind _ _ _ _ _ _ hu) (fun e => ite_ne (by unfold mX11_kind at e; exact e)) (sum_le (sum_R sum_nil) (by decide)) rfl (fun v6 => ?_)
    refine w_cVRR (q := 26) (As := [.int v6]) (st := []) hx (dc kX11_issues_0 13 rfl) cf1 (by decide) rfl (cI _ my_X1_wonBy lm_X11_304 (by decide)) vs_X1_wonBy rfl (fun u hu => sX1_wonBy _ _ _ _ _ _ hu) (fun e => ite_ne (by unfold mX1_wonBy at e; exact e)) (Nat.zero_le _) rfl (fun v8 => ?_)
    refine j_astore_n (q := 27) (i := 2) (l2 := [(0, vR x.2.2.2 x0)]) hx (dc kX11_issues_0 14 rfl) rfl (hn 2 (by decide)) [0] rfl ⟨⟨show (0 : Nat) ≠ 2 by decide, Or.inl (show (0 : Nat) + 1 ≠ 2 by decide)⟩, trivial⟩ rfl ?_
    refine j_iconst (q := 28) (v := (0 : Int32)) hx (dc kX11_issues_0 15 rfl) (by decide) rfl ?_
    refine j_istore_n (q := 29) (i := 3) (l2 := [(2, vR x.2.2.2 v8), (0, vR x.2.2.2 x0)]) hx (dc kX11_issues_0 16 rfl) rfl (hn 3 (by decide)) [0, 1] rfl ⟨⟨show (2 : Nat) ≠ 3 by decide, Or.inr (vR_cat _ _)⟩, ⟨⟨show (0 : Nat) ≠ 3 by decide, Or.inl (show (0 : Nat) + 1 ≠ 3 by decide)⟩, trivial⟩⟩ rfl ?_
    refine j_iconst (q := 30) (v := (0 : Int32)) hx (dc kX11_issues_0 17 rfl) (by decide) rfl ?_
    refine j_istore (q := 32) (i := 4) (l2 := [(3, .int (0 : Int32)), (2, vR x.2.2.2 v8), (0, vR x.2.2.2 x0)]) hx (dc kX11_issues_0 18 rfl) (hn 4 (by decide)) [0, 1, 2] rfl ⟨⟨show (3 : Nat) ≠ 4 by decide, Or.inr rfl⟩, ⟨⟨show (2 : Nat) ≠ 4 by decide, Or.inl (show (2 : Nat) + 1 ≠ 4 by decide)⟩, ⟨⟨show (0 : Nat) ≠ 4 by decide, Or.inl (show (0 : Nat) + 1 ≠ 4 by decide)⟩, trivial⟩⟩⟩ rfl ?_
    exact j_sub [3, 2, 1, 0] rfl (hb32 x0 v8 (0 : Int32) (0 : Int32) h4)
  · refine j_iconst (q := 9) (v := (-1 : Int32)) hx (dc kX11_issues_0 4 rfl) (by decide) rfl ?_
    exact r_iW hx hR (dc kX11_issues_0 5 rfl)

set_option maxHeartbeats 4000000 in
set_option maxRecDepth 100000 in
theorem sX11_judged (l : Launch) (w : Wd) (x0 : Nat) (x1 : Int32) (h : Hp) (u : (Int32 × Hp)) (hK : mX11_judged x0 x1 h = some u) : M1 l w mi_X11_judged 4 [vR w x0, .int x1] h u.2 (some (.int u.1)) := by
  refine M1.of (own := RX11) (T := fun _ r => r = u) hK (by decide +kernel) rfl (by first | (simp only [lg_lenR, lg_lenI, lg_lenL, lg_len0]; decide) | decide) (fun x hx hnl hhf hl hw hret hnm hQ h0e => ⟨?_, rfl⟩)
  subst hw
  subst hl
  have hR : Rt x h u.2 (some (.int u.1)) ((some .int)) := ⟨h0e, hhf, hret, hQ⟩
  have hn : ∀ i, i < 2 → i < x.2.2.1.1.1 := fun i hi => by rw [hnl]; exact hi
  have e0 : lv_args 0 [vR x.2.2.2 x0, .int x1] = [(0, vR x.2.2.2 x0), (1, .int x1)] := by simp only [lv_argsR, lv_argsI, lv_argsL, lv_args0]
  rw [e0]
  unfold mX11_judged
  refine J.ckd fun hck => ?_
  refine j_aload_n (q := 1) hx (dc kX11_judged_0 0 rfl) rfl 0 rfl rfl ?_
  refine j_iload_n (q := 2) hx (dc kX11_judged_0 1 rfl) rfl 1 rfl rfl ?_
  refine w_cVIR (q := 5) (As := [.int x1]) (st := []) hx (dc kX11_judged_0 2 rfl) cf11 (by decide) rfl (cI _ my_X11_isCount lm_X11_174 (by decide)) vs_X11_isCount rfl (fun u hu => sX11_isCount _ _ _ _ _ _ hu) (fun e => ite_ne (by unfold mX11_isCount at e; exact e)) (Nat.zero_le _) rfl (fun v1 => ?_)
  refine j_if_neS (q := 8) (tgt := 10) hx (dc kX11_judged_0 3 rfl) (by decide) rfl ?_ ?_
  · refine j_aload_n (q := 11) hx (dc kX11_judged_0 6 rfl) rfl 0 rfl rfl ?_
    refine w_cVVW (q := 14) (As := []) (st := []) hx (dc kX11_judged_0 7 rfl) cf11 (by decide) rfl (cI _ my_X11_remember lm_X11_204 (by decide)) vs_X11_remember rfl (fun u hu => sX11_remember _ _ _ _ _ hu) (fun e => ite_ne (by unfold mX11_remember at e; exact e)) (Nat.zero_le _) rfl (fun h4 => ?_)
    refine j_aload_n (q := 15) hx (dc kX11_judged_0 8 rfl) rfl 0 rfl rfl ?_
    refine w_gR (q := 18) hx (dc kX11_judged_0 9 rfl) ff_X11_9 lk_X11_69 rfl (fun v5 => ?_)
    refine j_aload_n (q := 19) hx (dc kX11_judged_0 10 rfl) rfl 0 rfl rfl ?_
    refine w_gR (q := 22) hx (dc kX11_judged_0 11 rfl) ff_X11_3 lk_X11_33 rfl (fun v6 => ?_)
    refine j_aload_n (q := 23) hx (dc kX11_judged_0 12 rfl) rfl 0 rfl rfl ?_
    refine j_iload_n (q := 24) hx (dc kX11_judged_0 13 rfl) rfl 1 rfl rfl ?_
    refine w_cVIR (q := 27) (As := [.int x1]) (st := [vR x.2.2.2 v6, vR x.2.2.2 v5]) hx (dc kX11_judged_0 14 rfl) cf11 (by decide) rfl (cI _ my_X11_kind lm_X11_192 (by decide)) vs_X11_kind rfl (fun u hu => sX11_kind _ _ _ _ _ _ hu) (fun e => ite_ne (by unfold mX11_kind at e; exact e)) (sum_le (sum_R (sum_R sum_nil)) (by decide)) rfl (fun v7 => ?_)
    refine w_cVRR (q := 30) (As := [.int v7]) (st := [vR x.2.2.2 v5]) hx (dc kX11_judged_0 15 rfl) cf1 (by decide) rfl (cI _ my_X1_wonBy lm_X11_304 (by decide)) vs_X1_wonBy rfl (fun u hu => sX1_wonBy _ _ _ _ _ _ hu) (fun e => ite_ne (by unfold mX1_wonBy at e; exact e)) (sum_le (sum_R sum_nil) (by decide)) rfl (fun v9 => ?_)
    refine w_cVIR (q := 33) (As := [vR x.2.2.2 v9]) (st := []) hx (dc kX11_judged_0 16 rfl) cf10 (by decide) rfl (cI _ my_X10_howIn lm_X11_332 (by decide)) vs_X10_howIn rfl (fun u hu => sX10_howIn _ _ _ _ _ _ hu) (fun e => ite_ne (by unfold mX10_howIn at e; exact e)) (Nat.zero_le _) rfl (fun v11 => ?_)
    exact r_iW hx hR (dc kX11_judged_0 17 rfl)
  · refine j_iconst (q := 9) (v := (-1 : Int32)) hx (dc kX11_judged_0 4 rfl) (by decide) rfl ?_
    exact r_iW hx hR (dc kX11_judged_0 5 rfl)

set_option maxHeartbeats 4000000 in
set_option maxRecDepth 100000 in
theorem sX11_growTrial (l : Launch) (w : Wd) (x0 : Nat) (x1 : Int32) (h : Hp) (u : Hp) (hK : mX11_growTrial x0 x1 h = some u) : M1 l w mi_X11_growTrial 4 [vR w x0, .int x1] h u (none) := by
  refine M1.of (own := RX11) (T := fun _ r => r = u) hK (by decide +kernel) rfl (by first | (simp only [lg_lenR, lg_lenI, lg_lenL, lg_len0]; decide) | decide) (fun x hx hnl hhf hl hw hret hnm hQ h0e => ⟨?_, rfl⟩)
  subst hw
  subst hl
  have hR : Rt x h u (none) (none) := ⟨h0e, hhf, hret, hQ⟩
  have hn : ∀ i, i < 4 → i < x.2.2.1.1.1 := fun i hi => by rw [hnl]; exact hi
  have e0 : lv_args 0 [vR x.2.2.2 x0, .int x1] = [(0, vR x.2.2.2 x0), (1, .int x1)] := by simp only [lv_argsR, lv_argsI, lv_argsL, lv_args0]
  rw [e0]
  have hb19 : ∀ (x0 : Nat) (x2 : Nat) (x3 : Int32) (h : Hp), J x 19 [(0, vR x.2.2.2 x0), (2, vR x.2.2.2 x2), (3, .int x3)] [] h (mX11_growTrial_l19 x0 x2 x3 h) (fun r => r = u) := by
    intro x0 x2 x3 h
    have hB : ∀ (x3 : Int32) (h : Hp), J x 19 [(0, vR x.2.2.2 x0), (2, vR x.2.2.2 x2), (3, .int x3)] [] h (mX11_growTrial_l19f x0 x2 x3 h) (TLo (S := (Int32 × Hp)) x 19 (fun s => [(0, vR x.2.2.2 x0), (2, vR x.2.2.2 x2), (3, .int s.1)]) [] (fun s => s.2) (fun r => r = u)) := by
      intro x3 h
      have hb59 : ∀ (x0 : Nat) (x2 : Nat) (x3 : Int32) (t0 : Nat) (t1 : Int32) (t2 : Int32) (h : Hp), J x 59 [(0, vR x.2.2.2 x0), (2, vR x.2.2.2 x2), (3, .int x3)] [.int t2, .int t1, vR x.2.2.2 t0] h (mX11_growTrial_b59 x0 x2 x3 t0 t1 t2 h) (TLo (S := (Int32 × Hp)) x 19 (fun s => [(0, vR x.2.2.2 x0), (2, vR x.2.2.2 x2), (3, .int s.1)]) [] (fun s => s.2) (fun r => r = u)) := by
        intro x0 x2 x3 t0 t1 t2 h
        unfold mX11_growTrial_b59
        refine w_cVVW (q := 62) (As := [.int t1, .int t2]) (st := []) hx (dc kX11_growTrial_0 31 rfl) cf9 (by decide) rfl (cI _ my_X9_setLeaf lm_X11_458 (by decide)) vs_X9_setLeaf rfl (fun u hu => sX9_setLeaf _ _ _ _ _ _ _ hu) (fun e => ite_ne (by unfold mX9_setLeaf at e; exact e)) (Nat.zero_le _) rfl (fun h25 => ?_)
        refine j_iinc (q := 65) (l2 := [(0, vR x.2.2.2 x0), (2, vR x.2.2.2 x2)]) hx (dc kX11_growTrial_0 32 rfl) 2 rfl (v := (1 : Int32)) (by decide) (hn 3 (by decide)) [0, 1] rfl ⟨⟨show (0 : Nat) ≠ 3 by decide, Or.inl (show (0 : Nat) + 1 ≠ 3 by decide)⟩, ⟨⟨show (2 : Nat) ≠ 3 by decide, Or.inr (vR_cat _ _)⟩, trivial⟩⟩ rfl ?_
        refine j_goto (q := 19) hx (dc kX11_growTrial_0 33 rfl) (by decide) ?_
        exact j_back [1, 2, 0] ((x3 + (1 : Int32)), h25) rfl rfl
      unfold mX11_growTrial_l19f
      refine j_iload_n (q := 20) hx (dc kX11_growTrial_0 11 rfl) rfl 2 rfl rfl ?_
      refine j_sipush (q := 23) (v := (256 : Int32)) hx (dc kX11_growTrial_0 12 rfl) (by decide) rfl ?_
      refine j_icmp_geS (q := 26) (tgt := 68) hx (dc kX11_growTrial_0 13 rfl) (by decide) rfl ?_ ?_
      · refine j_exit ?_
        refine j_aload_n (q := 69) hx (dc kX11_growTrial_0 34 rfl) rfl 0 rfl rfl ?_
        refine w_gR (q := 72) hx (dc kX11_growTrial_0 35 rfl) ff_X11_12 lk_X11_82 rfl (fun v8 => ?_)
        refine j_aload_n (q := 73) hx (dc kX11_growTrial_0 36 rfl) rfl 0 rfl rfl ?_
        refine w_cVIR (q := 76) (As := []) (st := [vR x.2.2.2 v8]) hx (dc kX11_growTrial_0 37 rfl) cf11 (by decide) rfl (cI _ my_X11_unknown lm_X11_249 (by decide)) vs_X11_unknown rfl (fun u hu => sX11_unknown _ _ _ _ _ hu) (fun e => ite_ne (by unfold mX11_unknown at e; exact e)) (sum_le (sum_R sum_nil) (by decide)) rfl (fun v9 => ?_)
        refine j_aload_n (q := 77) hx (dc kX11_growTrial_0 38 rfl) rfl 0 rfl rfl ?_
        refine w_gR (q := 80) hx (dc kX11_growTrial_0 39 rfl) ff_X11_5 lk_X11_43 rfl (fun v11 => ?_)
        refine w_gI (q := 83) hx (dc kX11_growTrial_0 40 rfl) ff_X5_8 lk_X11_168 rfl (fun v12 => ?_)
        refine j_aload_n (q := 84) hx (dc kX11_growTrial_0 41 rfl) rfl 0 rfl rfl ?_
        refine w_gR (q := 87) hx (dc kX11_growTrial_0 42 rfl) ff_X11_5 lk_X11_43 rfl (fun v13 => ?_)
        refine w_cVIR (q := 90) (As := []) (st := [.int v12, .int v9, vR x.2.2.2 v8]) hx (dc kX11_growTrial_0 43 rfl) cf5 (by decide) rfl (cI _ my_X5_known lm_X11_160 (by decide)) vs_X5_known rfl (fun u hu => sX5_known _ _ _ _ _ hu) (fun e => ite_ne (by unfold mX5_known at e; exact e)) (sum_le (sum_I (sum_I (sum_R sum_nil))) (by decide)) rfl (fun v14 => ?_)
        refine j_iand (q := 91) hx (dc kX11_growTrial_0 44 rfl) rfl ?_
        refine w_cVVW (q := 94) (As := [.int v9, .int (v12 &&& v14)]) (st := []) hx (dc kX11_growTrial_0 45 rfl) cf9 (by decide) rfl (cI _ my_X9_grow lm_X11_461 (by decide)) vs_X9_grow rfl (fun u hu => sX9_grow _ _ _ _ _ _ _ hu) (fun e => ite_ne (by unfold mX9_grow at e; exact e)) (Nat.zero_le _) rfl (fun h17 => ?_)
        exact r_vW hx hR (dc kX11_growTrial_0 46 rfl)
      · refine j_aload_n (q := 27) hx (dc kX11_growTrial_0 14 rfl) rfl 0 rfl rfl ?_
        refine w_gR (q := 30) hx (dc kX11_growTrial_0 15 rfl) ff_X11_12 lk_X11_82 rfl (fun v18 => ?_)
        refine j_iload_n (q := 31) hx (dc kX11_growTrial_0 16 rfl) rfl 2 rfl rfl ?_
        refine j_aload_n (q := 32) hx (dc kX11_growTrial_0 17 rfl) rfl 0 rfl rfl ?_
        refine w_gR (q := 35) hx (dc kX11_growTrial_0 18 rfl) ff_X11_9 lk_X11_69 rfl (fun v19 => ?_)
        refine j_iload_n (q := 36) hx (dc kX11_growTrial_0 19 rfl) rfl 2 rfl rfl ?_
        refine w_cVIR (q := 39) (As := [.int x3]) (st := [.int x3, vR x.2.2.2 v18]) hx (dc kX11_growTrial_0 20 rfl) cf10 (by decide) rfl (cI _ my_X10_holds lm_X11_325 (by decide)) vs_X10_holds rfl (fun u hu => sX10_holds _ _ _ _ _ _ hu) (fun e => ite_ne (by unfold mX10_holds at e; exact e)) (sum_le (sum_I (sum_R sum_nil)) (by decide)) rfl (fun v20 => ?_)
        refine j_if_neS (q := 42) (tgt := 46) hx (dc kX11_growTrial_0 21 rfl) (by decide) rfl ?_ ?_
        · refine j_aload_n (q := 47) hx (dc kX11_growTrial_0 24 rfl) rfl 1 rfl rfl ?_
          refine j_iload_n (q := 48) hx (dc kX11_growTrial_0 25 rfl) rfl 2 rfl rfl ?_
          refine w_cVIR (q := 51) (As := [.int x3]) (st := [.int x3, vR x.2.2.2 v18]) hx (dc kX11_growTrial_0 26 rfl) cf10 (by decide) rfl (cI _ my_X10_holds lm_X11_325 (by decide)) vs_X10_holds rfl (fun u hu => sX10_holds _ _ _ _ _ _ hu) (fun e => ite_ne (by unfold mX10_holds at e; exact e)) (sum_le (sum_I (sum_R sum_nil)) (by decide)) rfl (fun v22 => ?_)
          refine j_if_eq (q := 54) (tgt := 58) hx (dc kX11_growTrial_0 27 rfl) (by decide) Iff.rfl rfl ?_ ?_
          · refine j_iconst (q := 59) (v := (2 : Int32)) hx (dc kX11_growTrial_0 30 rfl) (by decide) rfl ?_
            exact hb59 x0 x2 x3 v18 x3 (2 : Int32) h
          · refine j_iconst (q := 55) (v := (1 : Int32)) hx (dc kX11_growTrial_0 28 rfl) (by decide) rfl ?_
            refine j_goto (q := 59) hx (dc kX11_growTrial_0 29 rfl) (by decide) ?_
            exact hb59 x0 x2 x3 v18 x3 (1 : Int32) h
        · refine j_iconst (q := 43) (v := (0 : Int32)) hx (dc kX11_growTrial_0 22 rfl) (by decide) rfl ?_
          refine j_goto (q := 59) hx (dc kX11_growTrial_0 23 rfl) (by decide) ?_
          exact hb59 x0 x2 x3 v18 x3 (0 : Int32) h
    exact j_loop (S := (Int32 × Hp)) (lvf := fun s => [(0, vR x.2.2.2 x0), (2, vR x.2.2.2 x2), (3, .int s.1)]) (hpf := fun s => s.2) (f := (fun s : (Int32 × Hp) => mX11_growTrial_l19f x0 x2 s.1 s.2)) (fun s => hB s.1 s.2) (x3, h)
  unfold mX11_growTrial
  refine J.ckd fun hck => ?_
  refine j_aload_n (q := 1) hx (dc kX11_growTrial_0 0 rfl) rfl 0 rfl rfl ?_
  refine w_cVVW (q := 4) (As := []) (st := []) hx (dc kX11_growTrial_0 1 rfl) cf11 (by decide) rfl (cI _ my_X11_remember lm_X11_204 (by decide)) vs_X11_remember rfl (fun u hu => sX11_remember _ _ _ _ _ hu) (fun e => ite_ne (by unfold mX11_remember at e; exact e)) (Nat.zero_le _) rfl (fun h2 => ?_)
  refine j_aload_n (q := 5) hx (dc kX11_growTrial_0 2 rfl) rfl 0 rfl rfl ?_
  refine w_gR (q := 8) hx (dc kX11_growTrial_0 3 rfl) ff_X11_3 lk_X11_33 rfl (fun v3 => ?_)
  refine j_aload_n (q := 9) hx (dc kX11_growTrial_0 4 rfl) rfl 0 rfl rfl ?_
  refine j_iload_n (q := 10) hx (dc kX11_growTrial_0 5 rfl) rfl 1 rfl rfl ?_
  refine w_cVIR (q := 13) (As := [.int x1]) (st := [vR x.2.2.2 v3]) hx (dc kX11_growTrial_0 6 rfl) cf11 (by decide) rfl (cI _ my_X11_kind lm_X11_192 (by decide)) vs_X11_kind rfl (fun u hu => sX11_kind _ _ _ _ _ _ hu) (fun e => ite_ne (by unfold mX11_kind at e; exact e)) (sum_le (sum_R sum_nil) (by decide)) rfl (fun v4 => ?_)
  refine w_cVRR (q := 16) (As := [.int v4]) (st := []) hx (dc kX11_growTrial_0 7 rfl) cf1 (by decide) rfl (cI _ my_X1_wonBy lm_X11_304 (by decide)) vs_X1_wonBy rfl (fun u hu => sX1_wonBy _ _ _ _ _ _ hu) (fun e => ite_ne (by unfold mX1_wonBy at e; exact e)) (Nat.zero_le _) rfl (fun v6 => ?_)
  refine j_astore_n (q := 17) (i := 2) (l2 := [(0, vR x.2.2.2 x0)]) hx (dc kX11_growTrial_0 8 rfl) rfl (hn 2 (by decide)) [0] rfl ⟨⟨show (0 : Nat) ≠ 2 by decide, Or.inl (show (0 : Nat) + 1 ≠ 2 by decide)⟩, trivial⟩ rfl ?_
  refine j_iconst (q := 18) (v := (0 : Int32)) hx (dc kX11_growTrial_0 9 rfl) (by decide) rfl ?_
  refine j_istore_n (q := 19) (i := 3) (l2 := [(2, vR x.2.2.2 v6), (0, vR x.2.2.2 x0)]) hx (dc kX11_growTrial_0 10 rfl) rfl (hn 3 (by decide)) [0, 1] rfl ⟨⟨show (2 : Nat) ≠ 3 by decide, Or.inr (vR_cat _ _)⟩, ⟨⟨show (0 : Nat) ≠ 3 by decide, Or.inl (show (0 : Nat) + 1 ≠ 3 by decide)⟩, trivial⟩⟩ rfl ?_
  exact j_sub [2, 1, 0] rfl (hb19 x0 v6 (0 : Int32) h2)

set_option maxHeartbeats 4000000 in
set_option maxRecDepth 100000 in
theorem sX11_tries (l : Launch) (w : Wd) (x0 : Nat) (x1 : Int32) (x2 : Int32) (h : Hp) (u : (Int32 × Hp)) (hK : mX11_tries x0 x1 x2 h = some u) : M1 l w mi_X11_tries 5 [vR w x0, .int x1, .int x2] h u.2 (some (.int u.1)) := by
  refine M1.of (own := RX11) (T := fun _ r => r = u) hK (by decide +kernel) rfl (by first | (simp only [lg_lenR, lg_lenI, lg_lenL, lg_len0]; decide) | decide) (fun x hx hnl hhf hl hw hret hnm hQ h0e => ⟨?_, rfl⟩)
  subst hw
  subst hl
  have hR : Rt x h u.2 (some (.int u.1)) ((some .int)) := ⟨h0e, hhf, hret, hQ⟩
  have hn : ∀ i, i < 3 → i < x.2.2.1.1.1 := fun i hi => by rw [hnl]; exact hi
  have e0 : lv_args 0 [vR x.2.2.2 x0, .int x1, .int x2] = [(0, vR x.2.2.2 x0), (1, .int x1), (2, .int x2)] := by simp only [lv_argsR, lv_argsI, lv_argsL, lv_args0]
  rw [e0]
  unfold mX11_tries
  refine J.ckd fun hck => ?_
  refine j_aload_n (q := 1) hx (dc kX11_tries_0 0 rfl) rfl 0 rfl rfl ?_
  refine j_iload_n (q := 2) hx (dc kX11_tries_0 1 rfl) rfl 1 rfl rfl ?_
  refine w_cVIR (q := 5) (As := [.int x1]) (st := []) hx (dc kX11_tries_0 2 rfl) cf11 (by decide) rfl (cI _ my_X11_isCount lm_X11_174 (by decide)) vs_X11_isCount rfl (fun u hu => sX11_isCount _ _ _ _ _ _ hu) (fun e => ite_ne (by unfold mX11_isCount at e; exact e)) (Nat.zero_le _) rfl (fun v1 => ?_)
  refine j_if_eq (q := 8) (tgt := 17) hx (dc kX11_tries_0 3 rfl) (by decide) Iff.rfl rfl ?_ ?_
  · refine j_iconst (q := 18) (v := (-1 : Int32)) hx (dc kX11_tries_0 9 rfl) (by decide) rfl ?_
    exact r_iW hx hR (dc kX11_tries_0 10 rfl)
  · refine j_iload_n (q := 9) hx (dc kX11_tries_0 4 rfl) rfl 2 rfl rfl ?_
    refine j_if_lt (q := 12) (tgt := 17) hx (dc kX11_tries_0 5 rfl) (by decide) Iff.rfl rfl ?_ ?_
    · refine j_iconst (q := 18) (v := (-1 : Int32)) hx (dc kX11_tries_0 9 rfl) (by decide) rfl ?_
      exact r_iW hx hR (dc kX11_tries_0 10 rfl)
    · refine j_iload_n (q := 13) hx (dc kX11_tries_0 6 rfl) rfl 2 rfl rfl ?_
      refine j_iconst (q := 14) (v := (1 : Int32)) hx (dc kX11_tries_0 7 rfl) (by decide) rfl ?_
      refine j_icmp_leS (q := 17) (tgt := 19) hx (dc kX11_tries_0 8 rfl) (by decide) rfl ?_ ?_
      · refine j_aload_n (q := 20) hx (dc kX11_tries_0 11 rfl) rfl 0 rfl rfl ?_
        refine j_iload_n (q := 21) hx (dc kX11_tries_0 12 rfl) rfl 1 rfl rfl ?_
        refine w_cVVW (q := 24) (As := [.int x1]) (st := []) hx (dc kX11_tries_0 13 rfl) cf11 (by decide) rfl (cI _ my_X11_growTrial lm_X11_336 (by decide)) vs_X11_growTrial rfl (fun u hu => sX11_growTrial _ _ _ _ _ _ hu) (fun e => ite_ne (by unfold mX11_growTrial at e; exact e)) (Nat.zero_le _) rfl (fun h4 => ?_)
        refine j_aload_n (q := 25) hx (dc kX11_tries_0 14 rfl) rfl 0 rfl rfl ?_
        refine w_gR (q := 28) hx (dc kX11_tries_0 15 rfl) ff_X11_12 lk_X11_82 rfl (fun v5 => ?_)
        refine w_cVVW (q := 31) (As := []) (st := []) hx (dc kX11_tries_0 16 rfl) cf9 (by decide) rfl (cI _ my_X9_countTrials lm_X11_339 (by decide)) vs_X9_countTrials rfl (fun u hu => sX9_countTrials _ _ _ _ _ hu) (fun e => ite_ne (by unfold mX9_countTrials at e; exact e)) (Nat.zero_le _) rfl (fun h7 => ?_)
        refine j_iload_n (q := 32) hx (dc kX11_tries_0 17 rfl) rfl 2 rfl rfl ?_
        refine j_if_neS (q := 35) (tgt := 43) hx (dc kX11_tries_0 18 rfl) (by decide) rfl ?_ ?_
        · refine j_aload_n (q := 44) hx (dc kX11_tries_0 23 rfl) rfl 0 rfl rfl ?_
          refine w_gR (q := 47) hx (dc kX11_tries_0 24 rfl) ff_X11_12 lk_X11_82 rfl (fun v8 => ?_)
          refine w_cVIR (q := 50) (As := []) (st := []) hx (dc kX11_tries_0 25 rfl) cf9 (by decide) rfl (cI _ my_X9_value lm_X11_342 (by decide)) vs_X9_value rfl (fun u hu => sX9_value _ _ _ _ _ hu) (fun e => ite_ne (by unfold mX9_value at e; exact e)) (Nat.zero_le _) rfl (fun v9 => ?_)
          refine j_if_neS (q := 53) (tgt := 58) hx (dc kX11_tries_0 26 rfl) (by decide) rfl ?_ ?_
          · refine j_aload_n (q := 59) hx (dc kX11_tries_0 29 rfl) rfl 0 rfl rfl ?_
            refine w_gR (q := 62) hx (dc kX11_tries_0 30 rfl) ff_X11_12 lk_X11_82 rfl (fun v11 => ?_)
            refine w_cVIR (q := 65) (As := []) (st := []) hx (dc kX11_tries_0 31 rfl) cf9 (by decide) rfl (cI _ my_X9_firstTrial lm_X11_345 (by decide)) vs_X9_firstTrial rfl (fun u hu => sX9_firstTrial _ _ _ _ _ hu) (fun e => ite_ne (by unfold mX9_firstTrial at e; exact e)) (Nat.zero_le _) rfl (fun v12 => ?_)
            exact r_iW hx hR (dc kX11_tries_0 32 rfl)
          · refine j_bipush (q := 55) (v := (-2 : Int32)) hx (dc kX11_tries_0 27 rfl) (by decide) rfl ?_
            refine j_goto (q := 65) hx (dc kX11_tries_0 28 rfl) (by decide) ?_
            exact r_iW hx hR (dc kX11_tries_0 32 rfl)
        · refine j_aload_n (q := 36) hx (dc kX11_tries_0 19 rfl) rfl 0 rfl rfl ?_
          refine w_gR (q := 39) hx (dc kX11_tries_0 20 rfl) ff_X11_12 lk_X11_82 rfl (fun v14 => ?_)
          refine w_cVIR (q := 42) (As := []) (st := []) hx (dc kX11_tries_0 21 rfl) cf9 (by decide) rfl (cI _ my_X9_value lm_X11_342 (by decide)) vs_X9_value rfl (fun u hu => sX9_value _ _ _ _ _ hu) (fun e => ite_ne (by unfold mX9_value at e; exact e)) (Nat.zero_le _) rfl (fun v15 => ?_)
          exact r_iW hx hR (dc kX11_tries_0 22 rfl)
      · refine j_iconst (q := 18) (v := (-1 : Int32)) hx (dc kX11_tries_0 9 rfl) (by decide) rfl ?_
        exact r_iW hx hR (dc kX11_tries_0 10 rfl)

set_option maxHeartbeats 4000000 in
set_option maxRecDepth 100000 in
theorem sX11_inLowestTerms (l : Launch) (w : Wd) (x0 : Int64) (x2 : Int64) (x4 : Int32) (h : Hp) (u : Int64) (hK : mX11_inLowestTerms x0 x2 x4 = some u) : M1 l w mi_X11_inLowestTerms 1 [.long x0, .long x2, .int x4] h h (some (.long u)) := by
  refine M1.of (own := RX11) (T := fun _ r => r = u) hK (by decide +kernel) rfl (by first | (simp only [lg_lenR, lg_lenI, lg_lenL, lg_len0]; decide) | decide) (fun x hx hnl hhf hl hw hret hnm hQ h0e => ⟨?_, rfl⟩)
  subst hw
  subst hl
  have hR : Rt x h h (some (.long u)) ((some .long)) := ⟨h0e, hhf, hret, hQ⟩
  have hn : ∀ i, i < 12 → i < x.2.2.1.1.1 := fun i hi => by rw [hnl]; exact hi
  have e0 : lv_args 0 [.long x0, .long x2, .int x4] = [(0, .long x0), (2, .long x2), (4, .int x4)] := by simp only [lv_argsR, lv_argsI, lv_argsL, lv_args0]
  rw [e0]
  have hb73 : ∀ (x5 : Int64) (t0 : Int64), J x 73 [(5, .long x5)] [.long t0] h (mX11_inLowestTerms_b73 x5 t0) (fun r => r = u) := by
    intro x5 t0
    unfold mX11_inLowestTerms_b73
    refine j_lload (q := 75) hx (dc kX11_inLowestTerms_0 38 rfl) 0 rfl rfl ?_
    refine j_ldiv (q := 76) hx (dc kX11_inLowestTerms_0 39 rfl) rfl ?_
    exact r_lR hx hR (dc kX11_inLowestTerms_0 40 rfl)
  have hb45 : ∀ (x0 : Int64) (x2 : Int64) (x4 : Int32) (x5 : Int64), J x 45 [(0, .long x0), (2, .long x2), (4, .int x4), (5, .long x5)] [] h (mX11_inLowestTerms_b45 x0 x2 x4 x5) (fun r => r = u) := by
    intro x0 x2 x4 x5
    unfold mX11_inLowestTerms_b45
    refine j_lload (q := 47) hx (dc kX11_inLowestTerms_0 23 rfl) 3 rfl rfl ?_
    refine j_lconst (q := 48) (v := (0 : Int64)) hx (dc kX11_inLowestTerms_0 24 rfl) (by decide) rfl ?_
    refine j_lcmp (q := 49) hx (dc kX11_inLowestTerms_0 25 rfl) rfl ?_
    refine j_if_neS (q := 52) (tgt := 63) hx (dc kX11_inLowestTerms_0 26 rfl) (by decide) rfl ?_ ?_
    · refine j_iload (q := 65) hx (dc kX11_inLowestTerms_0 33 rfl) 2 rfl rfl ?_
      refine j_if_neS (q := 68) (tgt := 72) hx (dc kX11_inLowestTerms_0 34 rfl) (by decide) rfl ?_ ?_
      · refine j_lload_n (q := 73) hx (dc kX11_inLowestTerms_0 37 rfl) rfl 1 rfl rfl ?_
        exact j_sub [3] rfl (hb73 x5 x2)
      · refine j_lload_n (q := 69) hx (dc kX11_inLowestTerms_0 35 rfl) rfl 0 rfl rfl ?_
        refine j_goto (q := 73) hx (dc kX11_inLowestTerms_0 36 rfl) (by decide) ?_
        exact j_sub [3] rfl (hb73 x5 x0)
    · refine j_iload (q := 54) hx (dc kX11_inLowestTerms_0 27 rfl) 2 rfl rfl ?_
      refine j_if_neS (q := 57) (tgt := 61) hx (dc kX11_inLowestTerms_0 28 rfl) (by decide) rfl ?_ ?_
      · refine j_lconst (q := 62) (v := (1 : Int64)) hx (dc kX11_inLowestTerms_0 31 rfl) (by decide) rfl ?_
        exact r_lR hx hR (dc kX11_inLowestTerms_0 32 rfl)
      · refine j_lconst (q := 58) (v := (0 : Int64)) hx (dc kX11_inLowestTerms_0 29 rfl) (by decide) rfl ?_
        refine j_goto (q := 62) hx (dc kX11_inLowestTerms_0 30 rfl) (by decide) ?_
        exact r_lR hx hR (dc kX11_inLowestTerms_0 32 rfl)
  have hb9 : ∀ (x0 : Int64) (x2 : Int64) (x4 : Int32) (x5 : Int64) (x7 : Int64) (x9 : Int32), J x 9 [(0, .long x0), (2, .long x2), (4, .int x4), (5, .long x5), (7, .long x7), (9, .int x9)] [] h (mX11_inLowestTerms_l9 x0 x2 x4 x5 x7 x9) (fun r => r = u) := by
    intro x0 x2 x4 x5 x7 x9
    have hB : ∀ (x5 : Int64) (x7 : Int64) (x9 : Int32), J x 9 [(0, .long x0), (2, .long x2), (4, .int x4), (5, .long x5), (7, .long x7), (9, .int x9)] [] h (mX11_inLowestTerms_l9f x0 x2 x4 x5 x7 x9) (TLo (S := (Int64 × Int64 × Int32)) x 9 (fun s => [(0, .long x0), (2, .long x2), (4, .int x4), (5, .long s.1), (7, .long s.2.1), (9, .int s.2.2)]) [] (fun s => h) (fun r => r = u)) := by
      intro x5 x7 x9
      unfold mX11_inLowestTerms_l9f
      refine j_iload (q := 11) hx (dc kX11_inLowestTerms_0 6 rfl) 5 rfl rfl ?_
      refine j_sipush (q := 14) (v := (200 : Int32)) hx (dc kX11_inLowestTerms_0 7 rfl) (by decide) rfl ?_
      refine j_icmp_geS (q := 17) (tgt := 45) hx (dc kX11_inLowestTerms_0 8 rfl) (by decide) rfl ?_ ?_
      · refine j_exit ?_
        exact j_sub [0, 1, 2, 3] rfl (hb45 x0 x2 x4 x5)
      · refine j_lload (q := 19) hx (dc kX11_inLowestTerms_0 9 rfl) 4 rfl rfl ?_
        refine j_lconst (q := 20) (v := (0 : Int64)) hx (dc kX11_inLowestTerms_0 10 rfl) (by decide) rfl ?_
        refine j_lcmp (q := 21) hx (dc kX11_inLowestTerms_0 11 rfl) rfl ?_
        refine j_if_eq (q := 24) (tgt := 45) hx (dc kX11_inLowestTerms_0 12 rfl) (by decide) Iff.rfl rfl ?_ ?_
        · refine j_exit ?_
          exact j_sub [0, 1, 2, 3] rfl (hb45 x0 x2 x4 x5)
        · refine j_lload (q := 26) hx (dc kX11_inLowestTerms_0 13 rfl) 3 rfl rfl ?_
          refine j_lload (q := 28) hx (dc kX11_inLowestTerms_0 14 rfl) 4 rfl rfl ?_
          refine j_lrem (q := 29) hx (dc kX11_inLowestTerms_0 15 rfl) rfl ?_
          refine j_lstore (q := 31) (i := 10) (l2 := [(0, .long x0), (2, .long x2), (4, .int x4), (7, .long x7), (9, .int x9)]) hx (dc kX11_inLowestTerms_0 16 rfl) (hn 11 (by decide)) [0, 1, 2, 4, 5] rfl ⟨⟨show (0 : Nat) ≠ 10 by decide, Or.inl (show (0 : Nat) + 1 ≠ 10 by decide)⟩, ⟨⟨show (2 : Nat) ≠ 10 by decide, Or.inl (show (2 : Nat) + 1 ≠ 10 by decide)⟩, ⟨⟨show (4 : Nat) ≠ 10 by decide, Or.inl (show (4 : Nat) + 1 ≠ 10 by decide)⟩, ⟨⟨show (7 : Nat) ≠ 10 by decide, Or.inl (show (7 : Nat) + 1 ≠ 10 by decide)⟩, ⟨⟨show (9 : Nat) ≠ 10 by decide, Or.inr rfl⟩, trivial⟩⟩⟩⟩⟩ (by simp) rfl ?_
          refine j_lload (q := 33) hx (dc kX11_inLowestTerms_0 17 rfl) 4 rfl rfl ?_
          refine j_lstore (q := 35) (i := 5) (l2 := [(10, .long (x5 - x5 / x7 * x7)), (0, .long x0), (2, .long x2), (4, .int x4), (9, .int x9)]) hx (dc kX11_inLowestTerms_0 18 rfl) (hn 6 (by decide)) [0, 1, 2, 3, 5] rfl ⟨⟨show (10 : Nat) ≠ 5 by decide, Or.inl (show (10 : Nat) + 1 ≠ 5 by decide)⟩, ⟨⟨show (0 : Nat) ≠ 5 by decide, Or.inl (show (0 : Nat) + 1 ≠ 5 by decide)⟩, ⟨⟨show (2 : Nat) ≠ 5 by decide, Or.inl (show (2 : Nat) + 1 ≠ 5 by decide)⟩, ⟨⟨show (4 : Nat) ≠ 5 by decide, Or.inr rfl⟩, ⟨⟨show (9 : Nat) ≠ 5 by decide, Or.inl (show (9 : Nat) + 1 ≠ 5 by decide)⟩, trivial⟩⟩⟩⟩⟩ (by simp) rfl ?_
          refine j_lload (q := 37) hx (dc kX11_inLowestTerms_0 19 rfl) 1 rfl rfl ?_
          refine j_lstore (q := 39) (i := 7) (l2 := [(5, .long x7), (0, .long x0), (2, .long x2), (4, .int x4), (9, .int x9)]) hx (dc kX11_inLowestTerms_0 20 rfl) (hn 8 (by decide)) [0, 2, 3, 4, 5] rfl ⟨⟨show (5 : Nat) ≠ 7 by decide, Or.inl (show (5 : Nat) + 1 ≠ 7 by decide)⟩, ⟨⟨show (0 : Nat) ≠ 7 by decide, Or.inl (show (0 : Nat) + 1 ≠ 7 by decide)⟩, ⟨⟨show (2 : Nat) ≠ 7 by decide, Or.inl (show (2 : Nat) + 1 ≠ 7 by decide)⟩, ⟨⟨show (4 : Nat) ≠ 7 by decide, Or.inl (show (4 : Nat) + 1 ≠ 7 by decide)⟩, ⟨⟨show (9 : Nat) ≠ 7 by decide, Or.inl (show (9 : Nat) + 1 ≠ 7 by decide)⟩, trivial⟩⟩⟩⟩⟩ (by simp) rfl ?_
          refine j_iinc (q := 42) (l2 := [(7, .long (x5 - x5 / x7 * x7)), (5, .long x7), (0, .long x0), (2, .long x2), (4, .int x4)]) hx (dc kX11_inLowestTerms_0 21 rfl) 5 rfl (v := (1 : Int32)) (by decide) (hn 9 (by decide)) [0, 1, 2, 3, 4] rfl ⟨⟨show (7 : Nat) ≠ 9 by decide, Or.inl (show (7 : Nat) + 1 ≠ 9 by decide)⟩, ⟨⟨show (5 : Nat) ≠ 9 by decide, Or.inl (show (5 : Nat) + 1 ≠ 9 by decide)⟩, ⟨⟨show (0 : Nat) ≠ 9 by decide, Or.inl (show (0 : Nat) + 1 ≠ 9 by decide)⟩, ⟨⟨show (2 : Nat) ≠ 9 by decide, Or.inl (show (2 : Nat) + 1 ≠ 9 by decide)⟩, ⟨⟨show (4 : Nat) ≠ 9 by decide, Or.inl (show (4 : Nat) + 1 ≠ 9 by decide)⟩, trivial⟩⟩⟩⟩⟩ rfl ?_
          refine j_goto (q := 9) hx (dc kX11_inLowestTerms_0 22 rfl) (by decide) ?_
          exact j_back [3, 4, 5, 2, 1, 0] (x7, (x5 - x5 / x7 * x7), (x9 + (1 : Int32))) rfl rfl
    exact j_loop (S := (Int64 × Int64 × Int32)) (lvf := fun s => [(0, .long x0), (2, .long x2), (4, .int x4), (5, .long s.1), (7, .long s.2.1), (9, .int s.2.2)]) (hpf := fun s => h) (f := (fun s : (Int64 × Int64 × Int32) => mX11_inLowestTerms_l9f x0 x2 x4 s.1 s.2.1 s.2.2)) (fun s => hB s.1 s.2.1 s.2.2) (x5, x7, x9)
  unfold mX11_inLowestTerms
  refine j_lload_n (q := 1) hx (dc kX11_inLowestTerms_0 0 rfl) rfl 1 rfl rfl ?_
  refine j_lstore (q := 3) (i := 5) (l2 := [(0, .long x0), (2, .long x2), (4, .int x4)]) hx (dc kX11_inLowestTerms_0 1 rfl) (hn 6 (by decide)) [0, 1, 2] rfl ⟨⟨show (0 : Nat) ≠ 5 by decide, Or.inl (show (0 : Nat) + 1 ≠ 5 by decide)⟩, ⟨⟨show (2 : Nat) ≠ 5 by decide, Or.inl (show (2 : Nat) + 1 ≠ 5 by decide)⟩, ⟨⟨show (4 : Nat) ≠ 5 by decide, Or.inr rfl⟩, trivial⟩⟩⟩ (by simp) rfl ?_
  refine j_lload_n (q := 4) hx (dc kX11_inLowestTerms_0 2 rfl) rfl 1 rfl rfl ?_
  refine j_lstore (q := 6) (i := 7) (l2 := [(5, .long x2), (0, .long x0), (2, .long x2), (4, .int x4)]) hx (dc kX11_inLowestTerms_0 3 rfl) (hn 8 (by decide)) [0, 1, 2, 3] rfl ⟨⟨show (5 : Nat) ≠ 7 by decide, Or.inl (show (5 : Nat) + 1 ≠ 7 by decide)⟩, ⟨⟨show (0 : Nat) ≠ 7 by decide, Or.inl (show (0 : Nat) + 1 ≠ 7 by decide)⟩, ⟨⟨show (2 : Nat) ≠ 7 by decide, Or.inl (show (2 : Nat) + 1 ≠ 7 by decide)⟩, ⟨⟨show (4 : Nat) ≠ 7 by decide, Or.inl (show (4 : Nat) + 1 ≠ 7 by decide)⟩, trivial⟩⟩⟩⟩ (by simp) rfl ?_
  refine j_iconst (q := 7) (v := (0 : Int32)) hx (dc kX11_inLowestTerms_0 4 rfl) (by decide) rfl ?_
  refine j_istore (q := 9) (i := 9) (l2 := [(7, .long x0), (5, .long x2), (0, .long x0), (2, .long x2), (4, .int x4)]) hx (dc kX11_inLowestTerms_0 5 rfl) (hn 9 (by decide)) [0, 1, 2, 3, 4] rfl ⟨⟨show (7 : Nat) ≠ 9 by decide, Or.inl (show (7 : Nat) + 1 ≠ 9 by decide)⟩, ⟨⟨show (5 : Nat) ≠ 9 by decide, Or.inl (show (5 : Nat) + 1 ≠ 9 by decide)⟩, ⟨⟨show (0 : Nat) ≠ 9 by decide, Or.inl (show (0 : Nat) + 1 ≠ 9 by decide)⟩, ⟨⟨show (2 : Nat) ≠ 9 by decide, Or.inl (show (2 : Nat) + 1 ≠ 9 by decide)⟩, ⟨⟨show (4 : Nat) ≠ 9 by decide, Or.inl (show (4 : Nat) + 1 ≠ 9 by decide)⟩, trivial⟩⟩⟩⟩⟩ rfl ?_
  exact j_sub [3, 4, 5, 2, 1, 0] rfl (hb9 x0 x2 x4 x2 x0 (0 : Int32))

set_option maxHeartbeats 4000000 in
set_option maxRecDepth 100000 in
theorem sX11_chance (l : Launch) (w : Wd) (x0 : Nat) (x1 : Int32) (x2 : Int32) (h : Hp) (u : (Int32 × Hp)) (hK : mX11_chance x0 x1 x2 h = some u) : M1 l w mi_X11_chance 4 [vR w x0, .int x1, .int x2] h u.2 (some (.int u.1)) := by
  refine M1.of (own := RX11) (T := fun _ r => r = u) hK (by decide +kernel) rfl (by first | (simp only [lg_lenR, lg_lenI, lg_lenL, lg_len0]; decide) | decide) (fun x hx hnl hhf hl hw hret hnm hQ h0e => ⟨?_, rfl⟩)
  subst hw
  subst hl
  have hR : Rt x h u.2 (some (.int u.1)) ((some .int)) := ⟨h0e, hhf, hret, hQ⟩
  have hn : ∀ i, i < 5 → i < x.2.2.1.1.1 := fun i hi => by rw [hnl]; exact hi
  have e0 : lv_args 0 [vR x.2.2.2 x0, .int x1, .int x2] = [(0, vR x.2.2.2 x0), (1, .int x1), (2, .int x2)] := by simp only [lv_argsR, lv_argsI, lv_argsL, lv_args0]
  rw [e0]
  unfold mX11_chance
  refine J.ckd fun hck => ?_
  refine j_aload_n (q := 1) hx (dc kX11_chance_0 0 rfl) rfl 0 rfl rfl ?_
  refine j_iload_n (q := 2) hx (dc kX11_chance_0 1 rfl) rfl 1 rfl rfl ?_
  refine w_cVIR (q := 5) (As := [.int x1]) (st := []) hx (dc kX11_chance_0 2 rfl) cf11 (by decide) rfl (cI _ my_X11_isCount lm_X11_174 (by decide)) vs_X11_isCount rfl (fun u hu => sX11_isCount _ _ _ _ _ _ hu) (fun e => ite_ne (by unfold mX11_isCount at e; exact e)) (Nat.zero_le _) rfl (fun v1 => ?_)
  refine j_if_eq (q := 8) (tgt := 17) hx (dc kX11_chance_0 3 rfl) (by decide) Iff.rfl rfl ?_ ?_
  · refine j_iconst (q := 18) (v := (-1 : Int32)) hx (dc kX11_chance_0 9 rfl) (by decide) rfl ?_
    exact r_iW hx hR (dc kX11_chance_0 10 rfl)
  · refine j_iload_n (q := 9) hx (dc kX11_chance_0 4 rfl) rfl 2 rfl rfl ?_
    refine j_if_lt (q := 12) (tgt := 17) hx (dc kX11_chance_0 5 rfl) (by decide) Iff.rfl rfl ?_ ?_
    · refine j_iconst (q := 18) (v := (-1 : Int32)) hx (dc kX11_chance_0 9 rfl) (by decide) rfl ?_
      exact r_iW hx hR (dc kX11_chance_0 10 rfl)
    · refine j_iload_n (q := 13) hx (dc kX11_chance_0 6 rfl) rfl 2 rfl rfl ?_
      refine j_iconst (q := 14) (v := (1 : Int32)) hx (dc kX11_chance_0 7 rfl) (by decide) rfl ?_
      refine j_icmp_leS (q := 17) (tgt := 19) hx (dc kX11_chance_0 8 rfl) (by decide) rfl ?_ ?_
      · refine j_aload_n (q := 20) hx (dc kX11_chance_0 11 rfl) rfl 0 rfl rfl ?_
        refine w_cVVW (q := 23) (As := []) (st := []) hx (dc kX11_chance_0 12 rfl) cf11 (by decide) rfl (cI _ my_X11_remember lm_X11_204 (by decide)) vs_X11_remember rfl (fun u hu => sX11_remember _ _ _ _ _ hu) (fun e => ite_ne (by unfold mX11_remember at e; exact e)) (Nat.zero_le _) rfl (fun h4 => ?_)
        refine j_aload_n (q := 24) hx (dc kX11_chance_0 13 rfl) rfl 0 rfl rfl ?_
        refine w_gR (q := 27) hx (dc kX11_chance_0 14 rfl) ff_X11_3 lk_X11_33 rfl (fun v5 => ?_)
        refine j_aload_n (q := 28) hx (dc kX11_chance_0 15 rfl) rfl 0 rfl rfl ?_
        refine w_gR (q := 31) hx (dc kX11_chance_0 16 rfl) ff_X11_9 lk_X11_69 rfl (fun v6 => ?_)
        refine w_cVJR (q := 34) (As := [vR x.2.2.2 v6]) (st := []) hx (dc kX11_chance_0 17 rfl) cf1 (by decide) rfl (cI _ my_X1_weigh lm_X11_348 (by decide)) vs_X1_weigh rfl (fun u hu => sX1_weigh _ _ _ _ _ _ hu) (fun e => ite_ne (by unfold mX1_weigh at e; exact e)) (Nat.zero_le _) rfl (fun v7 => ?_)
        refine j_lstore_n (q := 35) (i := 3) (l2 := [(0, vR x.2.2.2 x0), (1, .int x1), (2, .int x2)]) hx (dc kX11_chance_0 18 rfl) rfl (hn 4 (by decide)) [0, 1, 2] rfl ⟨⟨show (0 : Nat) ≠ 3 by decide, Or.inl (show (0 : Nat) + 1 ≠ 3 by decide)⟩, ⟨⟨show (1 : Nat) ≠ 3 by decide, Or.inl (show (1 : Nat) + 1 ≠ 3 by decide)⟩, ⟨⟨show (2 : Nat) ≠ 3 by decide, Or.inr rfl⟩, trivial⟩⟩⟩ (by simp) rfl ?_
        refine j_aload_n (q := 36) hx (dc kX11_chance_0 19 rfl) rfl 1 rfl rfl ?_
        refine w_gR (q := 39) hx (dc kX11_chance_0 20 rfl) ff_X11_9 lk_X11_69 rfl (fun v9 => ?_)
        refine j_aload_n (q := 40) hx (dc kX11_chance_0 21 rfl) rfl 1 rfl rfl ?_
        refine w_gR (q := 43) hx (dc kX11_chance_0 22 rfl) ff_X11_3 lk_X11_33 rfl (fun v10 => ?_)
        refine j_aload_n (q := 44) hx (dc kX11_chance_0 23 rfl) rfl 1 rfl rfl ?_
        refine j_iload_n (q := 45) hx (dc kX11_chance_0 24 rfl) rfl 2 rfl rfl ?_
        refine w_cVIR (q := 48) (As := [.int x1]) (st := [vR x.2.2.2 v10, vR x.2.2.2 v9]) hx (dc kX11_chance_0 25 rfl) cf11 (by decide) rfl (cI _ my_X11_kind lm_X11_192 (by decide)) vs_X11_kind rfl (fun u hu => sX11_kind _ _ _ _ _ _ hu) (fun e => ite_ne (by unfold mX11_kind at e; exact e)) (sum_le (sum_R (sum_R sum_nil)) (by decide)) rfl (fun v11 => ?_)
        refine w_cVRR (q := 51) (As := [.int v11]) (st := [vR x.2.2.2 v9]) hx (dc kX11_chance_0 26 rfl) cf1 (by decide) rfl (cI _ my_X1_wonBy lm_X11_304 (by decide)) vs_X1_wonBy rfl (fun u hu => sX1_wonBy _ _ _ _ _ _ hu) (fun e => ite_ne (by unfold mX1_wonBy at e; exact e)) (sum_le (sum_R sum_nil) (by decide)) rfl (fun v13 => ?_)
        refine w_cVVW (q := 54) (As := [vR x.2.2.2 v13]) (st := []) hx (dc kX11_chance_0 27 rfl) cf10 (by decide) rfl (cI _ my_X10_and lm_X11_308 (by decide)) vs_X10_and rfl (fun u hu => sX10_and _ _ _ _ _ _ hu) (fun e => ite_ne (by unfold mX10_and at e; exact e)) (Nat.zero_le _) rfl (fun h16 => ?_)
        refine j_aload_n (q := 55) hx (dc kX11_chance_0 28 rfl) rfl 1 rfl rfl ?_
        refine w_gR (q := 58) hx (dc kX11_chance_0 29 rfl) ff_X11_3 lk_X11_33 rfl (fun v17 => ?_)
        refine j_aload_n (q := 59) hx (dc kX11_chance_0 30 rfl) rfl 1 rfl rfl ?_
        refine w_gR (q := 62) hx (dc kX11_chance_0 31 rfl) ff_X11_9 lk_X11_69 rfl (fun v18 => ?_)
        refine w_cVJR (q := 65) (As := [vR x.2.2.2 v18]) (st := []) hx (dc kX11_chance_0 32 rfl) cf1 (by decide) rfl (cI _ my_X1_weigh lm_X11_348 (by decide)) vs_X1_weigh rfl (fun u hu => sX1_weigh _ _ _ _ _ _ hu) (fun e => ite_ne (by unfold mX1_weigh at e; exact e)) (Nat.zero_le _) rfl (fun v19 => ?_)
        refine j_lload_n (q := 66) hx (dc kX11_chance_0 33 rfl) rfl 0 rfl rfl ?_
        refine j_iload_n (q := 67) hx (dc kX11_chance_0 34 rfl) rfl 3 rfl rfl ?_
        refine w_cSJR (q := 70) (As := [.long v19, .long v7, .int x2]) (st := []) hx (dc kX11_chance_0 35 rfl) (cI _ my_X11_inLowestTerms lm_X11_352 (by decide)) st_X11_inLowestTerms rfl (fun u hu => sX11_inLowestTerms _ _ _ _ _ _ _ hu) (Nat.zero_le _) rfl (fun v21 => ?_)
        refine j_l2i (q := 71) hx (dc kX11_chance_0 36 rfl) rfl ?_
        exact r_iW hx hR (dc kX11_chance_0 37 rfl)
      · refine j_iconst (q := 18) (v := (-1 : Int32)) hx (dc kX11_chance_0 9 rfl) (by decide) rfl ?_
        exact r_iW hx hR (dc kX11_chance_0 10 rfl)

set_option maxHeartbeats 4000000 in
set_option maxRecDepth 100000 in
theorem sX11_standing (l : Launch) (w : Wd) (x0 : Nat) (h : Hp) (u : (Int32 × Hp)) (hK : mX11_standing x0 h = some u) : M1 l w mi_X11_standing 6 [vR w x0] h u.2 (some (.int u.1)) := by
  refine M1.of (own := RX11) (T := fun _ r => r = u) hK (by decide +kernel) rfl (by first | (simp only [lg_lenR, lg_lenI, lg_lenL, lg_len0]; decide) | decide) (fun x hx hnl hhf hl hw hret hnm hQ h0e => ⟨?_, rfl⟩)
  subst hw
  subst hl
  have hR : Rt x h u.2 (some (.int u.1)) ((some .int)) := ⟨h0e, hhf, hret, hQ⟩
  have hn : ∀ i, i < 3 → i < x.2.2.1.1.1 := fun i hi => by rw [hnl]; exact hi
  have e0 : lv_args 0 [vR x.2.2.2 x0] = [(0, vR x.2.2.2 x0)] := by simp only [lv_argsR, lv_argsI, lv_argsL, lv_args0]
  rw [e0]
  have hb4 : ∀ (x0 : Nat) (x1 : Int32) (x2 : Int32) (h : Hp), J x 4 [(0, vR x.2.2.2 x0), (1, .int x1), (2, .int x2)] [] h (mX11_standing_l4 x0 x1 x2 h) (fun r => r = u) := by
    intro x0 x1 x2 h
    have hB : ∀ (x1 : Int32) (x2 : Int32) (h : Hp), J x 4 [(0, vR x.2.2.2 x0), (1, .int x1), (2, .int x2)] [] h (mX11_standing_l4f x0 x1 x2 h) (TLo (S := (Int32 × Int32 × Hp)) x 4 (fun s => [(0, vR x.2.2.2 x0), (1, .int s.1), (2, .int s.2.1)]) [] (fun s => s.2.2) (fun r => r = u)) := by
      intro x1 x2 h
      have hb29 : ∀ (x0 : Nat) (x1 : Int32) (x2 : Int32) (h : Hp), J x 29 [(0, vR x.2.2.2 x0), (1, .int x1), (2, .int x2)] [] h (mX11_standing_b29 x0 x1 x2 h) (TLo (S := (Int32 × Int32 × Hp)) x 4 (fun s => [(0, vR x.2.2.2 x0), (1, .int s.1), (2, .int s.2.1)]) [] (fun s => s.2.2) (fun r => r = u)) := by
        intro x0 x1 x2 h
        unfold mX11_standing_b29
        refine j_iinc (q := 32) (l2 := [(0, vR x.2.2.2 x0), (1, .int x1)]) hx (dc kX11_standing_0 19 rfl) 2 rfl (v := (1 : Int32)) (by decide) (hn 2 (by decide)) [0, 1] rfl ⟨⟨show (0 : Nat) ≠ 2 by decide, Or.inl (show (0 : Nat) + 1 ≠ 2 by decide)⟩, ⟨⟨show (1 : Nat) ≠ 2 by decide, Or.inr rfl⟩, trivial⟩⟩ rfl ?_
        refine j_goto (q := 4) hx (dc kX11_standing_0 20 rfl) (by decide) ?_
        exact j_back [1, 2, 0] (x1, (x2 + (1 : Int32)), h) rfl rfl
      unfold mX11_standing_l4f
      refine j_iload_n (q := 5) hx (dc kX11_standing_0 4 rfl) rfl 2 rfl rfl ?_
      refine j_aload_n (q := 6) hx (dc kX11_standing_0 5 rfl) rfl 0 rfl rfl ?_
      refine w_gR (q := 9) hx (dc kX11_standing_0 6 rfl) ff_X11_5 lk_X11_43 rfl (fun v1 => ?_)
      refine w_gI (q := 12) hx (dc kX11_standing_0 7 rfl) ff_X5_2 lk_X11_264 rfl (fun v2 => ?_)
      refine j_icmp_geS (q := 15) (tgt := 35) hx (dc kX11_standing_0 8 rfl) (by decide) rfl ?_ ?_
      · refine j_exit ?_
        refine j_iload_n (q := 36) hx (dc kX11_standing_0 21 rfl) rfl 1 rfl rfl ?_
        exact r_iW hx hR (dc kX11_standing_0 22 rfl)
      · refine j_aload_n (q := 16) hx (dc kX11_standing_0 9 rfl) rfl 0 rfl rfl ?_
        refine j_iload_n (q := 17) hx (dc kX11_standing_0 10 rfl) rfl 2 rfl rfl ?_
        refine w_cVIW (q := 20) (As := [.int x2]) (st := []) hx (dc kX11_standing_0 11 rfl) cf11 (by decide) rfl (cI _ my_X11_failing lm_X11_207 (by decide)) vs_X11_failing rfl (fun u hu => sX11_failing _ _ _ _ _ _ hu) (fun e => ite_ne (by unfold mX11_failing at e; exact e)) (Nat.zero_le _) rfl (fun v3 h4 => ?_)
        refine j_if_neS (q := 23) (tgt := 29) hx (dc kX11_standing_0 12 rfl) (by decide) rfl ?_ ?_
        · exact hb29 x0 x1 x2 h4
        · refine j_iload_n (q := 24) hx (dc kX11_standing_0 13 rfl) rfl 1 rfl rfl ?_
          refine j_iconst (q := 25) (v := (1 : Int32)) hx (dc kX11_standing_0 14 rfl) (by decide) rfl ?_
          refine j_iload_n (q := 26) hx (dc kX11_standing_0 15 rfl) rfl 2 rfl rfl ?_
          refine j_ishl (q := 27) hx (dc kX11_standing_0 16 rfl) rfl ?_
          refine j_ior (q := 28) hx (dc kX11_standing_0 17 rfl) rfl ?_
          refine j_istore_n (q := 29) (i := 1) (l2 := [(0, vR x.2.2.2 x0), (2, .int x2)]) hx (dc kX11_standing_0 18 rfl) rfl (hn 1 (by decide)) [0, 2] rfl ⟨⟨show (0 : Nat) ≠ 1 by decide, Or.inr (vR_cat _ _)⟩, ⟨⟨show (2 : Nat) ≠ 1 by decide, Or.inl (show (2 : Nat) + 1 ≠ 1 by decide)⟩, trivial⟩⟩ rfl ?_
          exact j_sub [1, 0, 2] rfl (hb29 x0 (x1 ||| ((1 : Int32) <<< (x2 &&& 31))) x2 h4)
    exact j_loop (S := (Int32 × Int32 × Hp)) (lvf := fun s => [(0, vR x.2.2.2 x0), (1, .int s.1), (2, .int s.2.1)]) (hpf := fun s => s.2.2) (f := (fun s : (Int32 × Int32 × Hp) => mX11_standing_l4f x0 s.1 s.2.1 s.2.2)) (fun s => hB s.1 s.2.1 s.2.2) (x1, x2, h)
  unfold mX11_standing
  refine J.ckd fun hck => ?_
  refine j_iconst (q := 1) (v := (0 : Int32)) hx (dc kX11_standing_0 0 rfl) (by decide) rfl ?_
  refine j_istore_n (q := 2) (i := 1) (l2 := [(0, vR x.2.2.2 x0)]) hx (dc kX11_standing_0 1 rfl) rfl (hn 1 (by decide)) [0] rfl ⟨⟨show (0 : Nat) ≠ 1 by decide, Or.inr (vR_cat _ _)⟩, trivial⟩ rfl ?_
  refine j_iconst (q := 3) (v := (0 : Int32)) hx (dc kX11_standing_0 2 rfl) (by decide) rfl ?_
  refine j_istore_n (q := 4) (i := 2) (l2 := [(1, .int (0 : Int32)), (0, vR x.2.2.2 x0)]) hx (dc kX11_standing_0 3 rfl) rfl (hn 2 (by decide)) [0, 1] rfl ⟨⟨show (1 : Nat) ≠ 2 by decide, Or.inr rfl⟩, ⟨⟨show (0 : Nat) ≠ 2 by decide, Or.inl (show (0 : Nat) + 1 ≠ 2 by decide)⟩, trivial⟩⟩ rfl ?_
  exact j_sub [2, 1, 0] rfl (hb4 x0 (0 : Int32) (0 : Int32) h)

