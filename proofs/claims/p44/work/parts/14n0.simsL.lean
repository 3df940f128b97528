set_option maxHeartbeats 4000000 in
set_option maxRecDepth 100000 in
theorem sL_init {x0 : Nat} (hvx0 : x0 ≠ 0) (l : Launch) (w : Wd) (h : Hp) (u : Hp) (hK : mL_init x0 h = some u) : M1 l w mi_L_init 8 [vR w x0] h u (none) := by
  refine M1.of (own := RL) (T := fun _ r => r = u) hK (by decide +kernel) rfl (by first | (simp only [lg_lenR, lg_lenI, lg_lenL, lg_len0]; decide) | decide) (fun x hx hnl hhf hl hw hret hnm hQ h0e => ⟨?_, rfl⟩)
  subst hw
  subst hl
  have hR : Rt x h u (none) (none) := ⟨h0e, hhf, hret, hQ⟩
  have hn : ∀ i, i < 1 → i < x.2.2.1.1.1 := fun i hi => by rw [hnl]; exact hi
  have e0 : lv_args 0 [vR x.2.2.2 x0] = [(0, vR x.2.2.2 x0)] := by simp only [lv_argsR, lv_argsI, lv_argsL, lv_args0]
  rw [e0]
  unfold mL_init
  refine j_aload_n (q := 1) hx (dc kL_init_0 0 rfl) rfl 0 rfl rfl ?_
  refine j_obj (q := 4) hx (dc kL_init_0 1 rfl) lo_L_1 hvx0 (by decide) (Nat.zero_le _) rfl ?_
  refine j_aload_n (q := 5) hx (dc kL_init_0 2 rfl) rfl 0 rfl rfl ?_
  refine j_new (q := 8) hx (dc kL_init_0 3 rfl) cf11 (by decide) nw_L_7 rfl (fun v2 hvv2 h1 => ?_)
  refine j_dup (q := 9) hx (dc kL_init_0 4 rfl) (vR_cat _ _) rfl ?_
  refine w_cIVW (q := 12) (As := []) (st := [vR x.2.2.2 v2, vR x.2.2.2 x0]) hx (dc kL_init_0 5 rfl) (cI _ my_X11_init lm_L_9 (by decide)) is_X11_init rfl rfl (fun u hu => sX11_init hvv2 _ _ _ _ hu) hvv2 (sum_le (sum_R (sum_R sum_nil)) (by decide)) rfl (fun h4 => ?_)
  refine w_sR (q := 15) hx (dc kL_init_0 6 rfl) ff_L_0 lk_L_10 (Or.inr ⟨hnm, rfl, rfl, lt_L_10⟩) rfl (fun h5 => ?_)
  refine j_aload_n (q := 16) hx (dc kL_init_0 7 rfl) rfl 0 rfl rfl ?_
  refine j_bipush (q := 18) (v := (8 : Int32)) hx (dc kL_init_0 8 rfl) (by decide) rfl ?_
  refine j_newarray50 (q := 20) hx (dc kL_init_0 9 rfl) ac_I (by decide) (by decide) (by decide) rfl (fun v7 hvv7 h6 => ?_)
  refine w_sR (q := 23) hx (dc kL_init_0 10 rfl) ff_L_6 lk_L_16 (Or.inr ⟨hnm, rfl, rfl, lt_L_16⟩) rfl (fun h8 => ?_)
  refine j_aload_n (q := 24) hx (dc kL_init_0 11 rfl) rfl 0 rfl rfl ?_
  refine j_new (q := 27) hx (dc kL_init_0 12 rfl) cf18 (by decide) nw_L_20 rfl (fun v10 hvv10 h9 => ?_)
  refine j_dup (q := 28) hx (dc kL_init_0 13 rfl) (vR_cat _ _) rfl ?_
  refine w_cIVW (q := 31) (As := []) (st := [vR x.2.2.2 v10, vR x.2.2.2 x0]) hx (dc kL_init_0 14 rfl) (cI _ my_Jx4a65c_init_da8c8 lm_L_22 (by decide)) is_Jx4a65c_init_da8c8 rfl rfl (fun u hu => sJx4a65c_init_da8c8 hvv10 _ _ _ _ hu) hvv10 (sum_le (sum_R (sum_R sum_nil)) (by decide)) rfl (fun h12 => ?_)
  refine w_sR (q := 34) hx (dc kL_init_0 15 rfl) ff_L_7 lk_L_23 (Or.inr ⟨hnm, rfl, rfl, lt_L_23⟩) rfl (fun h13 => ?_)
  refine j_aload_n (q := 35) hx (dc kL_init_0 16 rfl) rfl 0 rfl rfl ?_
  refine j_iconst (q := 36) (v := (5 : Int32)) hx (dc kL_init_0 17 rfl) (by decide) rfl ?_
  refine j_iconst (q := 37) (v := (5 : Int32)) hx (dc kL_init_0 18 rfl) (by decide) rfl ?_
  refine j_muZ (q := 41) hx (dc kL_init_0 19 rfl) mz_L_27 ac_Z rfl (fun v15 hvv15 h14 => ?_)
  refine w_sR (q := 44) hx (dc kL_init_0 20 rfl) ff_L_8 lk_L_29 (Or.inr ⟨hnm, rfl, rfl, lt_L_29⟩) rfl (fun h16 => ?_)
  refine j_aload_n (q := 45) hx (dc kL_init_0 21 rfl) rfl 0 rfl rfl ?_
  refine j_new (q := 48) hx (dc kL_init_0 22 rfl) cf18 (by decide) nw_L_20 rfl (fun v18 hvv18 h17 => ?_)
  refine j_dup (q := 49) hx (dc kL_init_0 23 rfl) (vR_cat _ _) rfl ?_
  refine w_cIVW (q := 52) (As := []) (st := [vR x.2.2.2 v18, vR x.2.2.2 x0]) hx (dc kL_init_0 24 rfl) (cI _ my_Jx4a65c_init_da8c8 lm_L_22 (by decide)) is_Jx4a65c_init_da8c8 rfl rfl (fun u hu => sJx4a65c_init_da8c8 hvv18 _ _ _ _ hu) hvv18 (sum_le (sum_R (sum_R sum_nil)) (by decide)) rfl (fun h20 => ?_)
  refine w_sR (q := 55) hx (dc kL_init_0 25 rfl) ff_L_11 lk_L_32 (Or.inr ⟨hnm, rfl, rfl, lt_L_32⟩) rfl (fun h21 => ?_)
  exact r_vW hx hR (dc kL_init_0 26 rfl)

set_option maxHeartbeats 4000000 in
set_option maxRecDepth 100000 in
theorem sL_at (l : Launch) (w : Wd) (x0 : Nat) (x1 : Int32) (h : Hp) (u : Int32) (hK : mL_at x0 x1 h = some u) : M1 l w mi_L_at 1 [vR w x0, .int x1] h h (some (.int u)) := by
  refine M1.of (own := RL) (T := fun _ r => r = u) hK (by decide +kernel) rfl (by first | (simp only [lg_lenR, lg_lenI, lg_lenL, lg_len0]; decide) | decide) (fun x hx hnl hhf hl hw hret hnm hQ h0e => ⟨?_, rfl⟩)
  subst hw
  subst hl
  have hR : Rt x h h (some (.int u)) ((some .int)) := ⟨h0e, hhf, hret, hQ⟩
  have hn : ∀ i, i < 3 → i < x.2.2.1.1.1 := fun i hi => by rw [hnl]; exact hi
  have e0 : lv_args 0 [vR x.2.2.2 x0, .int x1] = [(0, vR x.2.2.2 x0), (1, .int x1)] := by simp only [lv_argsR, lv_argsI, lv_argsL, lv_args0]
  rw [e0]
  have hb13 : ∀ (x1 : Int32) (t0 : Int32), J x 13 [(1, .int x1)] [.int t0] h (mL_at_b13 x1 t0 h) (fun r => r = u) := by
    intro x1 t0
    unfold mL_at_b13
    refine j_istore_n (q := 14) (i := 2) (l2 := [(1, .int x1)]) hx (dc kL_at_0 9 rfl) rfl (hn 2 (by decide)) [0] rfl ⟨⟨show (1 : Nat) ≠ 2 by decide, Or.inr rfl⟩, trivial⟩ rfl ?_
    refine j_iload_n (q := 15) hx (dc kL_at_0 10 rfl) rfl 0 rfl rfl ?_
    refine j_if_leS (q := 18) (tgt := 37) hx (dc kL_at_0 11 rfl) (by decide) rfl ?_ ?_
    · refine j_iload_n (q := 38) hx (dc kL_at_0 23 rfl) rfl 0 rfl rfl ?_
      exact r_iR hx hR (dc kL_at_0 24 rfl)
    · refine j_iload_n (q := 19) hx (dc kL_at_0 12 rfl) rfl 0 rfl rfl ?_
      refine j_sipush (q := 22) (v := (512 : Int32)) hx (dc kL_at_0 13 rfl) (by decide) rfl ?_
      refine j_icmp_geS (q := 25) (tgt := 37) hx (dc kL_at_0 14 rfl) (by decide) rfl ?_ ?_
      · refine j_iload_n (q := 38) hx (dc kL_at_0 23 rfl) rfl 0 rfl rfl ?_
        exact r_iR hx hR (dc kL_at_0 24 rfl)
      · refine j_iload_n (q := 26) hx (dc kL_at_0 15 rfl) rfl 0 rfl rfl ?_
        refine j_ldc (q := 28) hx kc_L_35 (dc kL_at_0 16 rfl) rfl ?_
        refine j_imul (q := 29) hx (dc kL_at_0 17 rfl) rfl ?_
        refine j_iload_n (q := 30) hx (dc kL_at_0 18 rfl) rfl 1 rfl rfl ?_
        refine j_ldc (q := 32) hx kc_L_36 (dc kL_at_0 19 rfl) rfl ?_
        refine j_imul (q := 33) hx (dc kL_at_0 20 rfl) rfl ?_
        refine j_ixor (q := 34) hx (dc kL_at_0 21 rfl) rfl ?_
        refine j_goto (q := 38) hx (dc kL_at_0 22 rfl) (by decide) ?_
        exact r_iR hx hR (dc kL_at_0 24 rfl)
  unfold mL_at
  refine j_iload_n (q := 1) hx (dc kL_at_0 0 rfl) rfl 1 rfl rfl ?_
  refine j_aload_n (q := 2) hx (dc kL_at_0 1 rfl) rfl 0 rfl rfl ?_
  refine j_alen (q := 3) hx (dc kL_at_0 2 rfl) rfl (fun v1 => ?_)
  refine j_icmp_geS (q := 6) (tgt := 12) hx (dc kL_at_0 3 rfl) (by decide) rfl ?_ ?_
  · refine j_iconst (q := 13) (v := (0 : Int32)) hx (dc kL_at_0 8 rfl) (by decide) rfl ?_
    exact j_sub [1] rfl (hb13 x1 (0 : Int32))
  · refine j_aload_n (q := 7) hx (dc kL_at_0 4 rfl) rfl 0 rfl rfl ?_
    refine j_iload_n (q := 8) hx (dc kL_at_0 5 rfl) rfl 1 rfl rfl ?_
    refine j_ldI (q := 9) hx (dc kL_at_0 6 rfl) rfl (fun v2 => ?_)
    refine j_goto (q := 13) hx (dc kL_at_0 7 rfl) (by decide) ?_
    exact j_sub [1] rfl (hb13 x1 v2)

set_option maxHeartbeats 4000000 in
set_option maxRecDepth 100000 in
theorem sL_draw (l : Launch) (w : Wd) (x0 : Nat) (x1 : Int32) (h : Hp) (u : (Int32 × Hp)) (hK : mL_draw x0 x1 h = some u) : M1 l w mi_L_draw 2 [vR w x0, .int x1] h u.2 (some (.int u.1)) := by
  refine M1.of (own := RL) (T := fun _ r => r = u) hK (by decide +kernel) rfl (by first | (simp only [lg_lenR, lg_lenI, lg_lenL, lg_len0]; decide) | decide) (fun x hx hnl hhf hl hw hret hnm hQ h0e => ⟨?_, rfl⟩)
  subst hw
  subst hl
  have hR : Rt x h u.2 (some (.int u.1)) ((some .int)) := ⟨h0e, hhf, hret, hQ⟩
  have hn : ∀ i, i < 3 → i < x.2.2.1.1.1 := fun i hi => by rw [hnl]; exact hi
  have e0 : lv_args 0 [vR x.2.2.2 x0, .int x1] = [(0, vR x.2.2.2 x0), (1, .int x1)] := by simp only [lv_argsR, lv_argsI, lv_argsL, lv_args0]
  rw [e0]
  have hb59 : ∀ (x1 : Int32) (x2 : Int32) (h : Hp), J x 59 [(1, .int x1), (2, .int x2)] [] h (mL_draw_b59 x1 x2 h) (fun r => r = u) := by
    intro x1 x2 h
    unfold mL_draw_b59
    refine j_iload_n (q := 60) hx (dc kL_draw_0 39 rfl) rfl 1 rfl rfl ?_
    refine j_ldc (q := 62) hx kc_L_56 (dc kL_draw_0 40 rfl) rfl ?_
    refine j_iand (q := 63) hx (dc kL_draw_0 41 rfl) rfl ?_
    refine j_iload_n (q := 64) hx (dc kL_draw_0 42 rfl) rfl 0 rfl rfl ?_
    refine j_irem (q := 65) hx (dc kL_draw_0 43 rfl) rfl ?_
    exact r_iW hx hR (dc kL_draw_0 44 rfl)
  have hb47 : ∀ (x1 : Int32) (x2 : Int32) (h : Hp), J x 47 [(1, .int x1), (2, .int x2)] [] h (mL_draw_b47 x1 x2 h) (fun r => r = u) := by
    intro x1 x2 h
    unfold mL_draw_b47
    refine j_iload_n (q := 48) hx (dc kL_draw_0 29 rfl) rfl 1 rfl rfl ?_
    refine j_ldc (q := 50) hx kc_L_55 (dc kL_draw_0 30 rfl) rfl ?_
    refine j_imul (q := 51) hx (dc kL_draw_0 31 rfl) rfl ?_
    refine j_istore_n (q := 52) (i := 2) (l2 := [(1, .int x1)]) hx (dc kL_draw_0 32 rfl) rfl (hn 2 (by decide)) [0] rfl ⟨⟨show (1 : Nat) ≠ 2 by decide, Or.inr rfl⟩, trivial⟩ rfl ?_
    refine j_iload_n (q := 53) hx (dc kL_draw_0 33 rfl) rfl 0 rfl rfl ?_
    refine j_iload_n (q := 54) hx (dc kL_draw_0 34 rfl) rfl 0 rfl rfl ?_
    refine j_bipush (q := 56) (v := (13 : Int32)) hx (dc kL_draw_0 35 rfl) (by decide) rfl ?_
    refine j_iushr (q := 57) hx (dc kL_draw_0 36 rfl) rfl ?_
    refine j_ixor (q := 58) hx (dc kL_draw_0 37 rfl) rfl ?_
    refine j_istore_n (q := 59) (i := 2) (l2 := [(1, .int x1)]) hx (dc kL_draw_0 38 rfl) rfl (hn 2 (by decide)) [1] rfl ⟨⟨show (1 : Nat) ≠ 2 by decide, Or.inr rfl⟩, trivial⟩ rfl ?_
    exact j_sub [1, 0] rfl (hb59 x1 ((x2 * (739982445 : Int32)) ^^^ (ushrI (x2 * (739982445 : Int32)) (13 : Int32))) h)
  unfold mL_draw
  refine J.ckd fun hck => ?_
  refine j_aload_n (q := 1) hx (dc kL_draw_0 0 rfl) rfl 0 rfl rfl ?_
  refine w_gR (q := 4) hx (dc kL_draw_0 1 rfl) ff_L_1 lk_L_37 rfl (fun v1 => ?_)
  refine j_aload_n (q := 5) hx (dc kL_draw_0 2 rfl) rfl 0 rfl rfl ?_
  refine w_gI (q := 8) hx (dc kL_draw_0 3 rfl) ff_L_2 lk_L_40 rfl (fun v2 => ?_)
  refine j_iconst (q := 9) (v := (1 : Int32)) hx (dc kL_draw_0 4 rfl) (by decide) rfl ?_
  refine j_aload_n (q := 10) hx (dc kL_draw_0 5 rfl) rfl 0 rfl rfl ?_
  refine w_gR (q := 13) hx (dc kL_draw_0 6 rfl) ff_L_1 lk_L_37 rfl (fun v3 => ?_)
  refine j_alen (q := 14) hx (dc kL_draw_0 7 rfl) rfl (fun v4 => ?_)
  refine w_mmax (q := 17) hx (dc kL_draw_0 8 rfl) lm_L_44 ms_mmax ms_init mc_mmax (by decide) (sum_le (sum_I (sum_R sum_nil)) (by decide)) rfl ?_
  refine j_irem (q := 18) hx (dc kL_draw_0 9 rfl) rfl ?_
  refine w_cSIR (q := 21) (As := [vR x.2.2.2 v1, .int (v2 - v2 / (mmax (1 : Int32) v4) * (mmax (1 : Int32) v4))]) (st := []) hx (dc kL_draw_0 10 rfl) (cI _ my_L_at lm_L_50 (by decide)) st_L_at rfl (fun u hu => sL_at _ _ _ _ _ _ hu) (Nat.zero_le _) rfl (fun v5 => ?_)
  refine j_aload_n (q := 22) hx (dc kL_draw_0 11 rfl) rfl 0 rfl rfl ?_
  refine w_gI (q := 25) hx (dc kL_draw_0 12 rfl) ff_L_2 lk_L_40 rfl (fun v7 => ?_)
  refine j_ldc (q := 27) hx kc_L_54 (dc kL_draw_0 13 rfl) rfl ?_
  refine j_imul (q := 28) hx (dc kL_draw_0 14 rfl) rfl ?_
  refine j_iadd (q := 29) hx (dc kL_draw_0 15 rfl) rfl ?_
  refine j_istore_n (q := 30) (i := 2) (l2 := [(0, vR x.2.2.2 x0), (1, .int x1)]) hx (dc kL_draw_0 16 rfl) rfl (hn 2 (by decide)) [0, 1] rfl ⟨⟨show (0 : Nat) ≠ 2 by decide, Or.inl (show (0 : Nat) + 1 ≠ 2 by decide)⟩, ⟨⟨show (1 : Nat) ≠ 2 by decide, Or.inr rfl⟩, trivial⟩⟩ rfl ?_
  refine j_aload_n (q := 31) hx (dc kL_draw_0 17 rfl) rfl 1 rfl rfl ?_
  refine j_dup (q := 32) hx (dc kL_draw_0 18 rfl) (vR_cat _ _) rfl ?_
  refine w_gI (q := 35) hx (dc kL_draw_0 19 rfl) ff_L_2 lk_L_40 rfl (fun v8 => ?_)
  refine j_iconst (q := 36) (v := (1 : Int32)) hx (dc kL_draw_0 20 rfl) (by decide) rfl ?_
  refine j_iadd (q := 37) hx (dc kL_draw_0 21 rfl) rfl ?_
  refine w_sI (q := 40) hx (dc kL_draw_0 22 rfl) ff_L_2 rfl lk_L_40 (Or.inl rfl) rfl (fun h9 => ?_)
  refine j_iload_n (q := 41) hx (dc kL_draw_0 23 rfl) rfl 0 rfl rfl ?_
  refine j_iload_n (q := 42) hx (dc kL_draw_0 24 rfl) rfl 0 rfl rfl ?_
  refine j_bipush (q := 44) (v := (15 : Int32)) hx (dc kL_draw_0 25 rfl) (by decide) rfl ?_
  refine j_iushr (q := 45) hx (dc kL_draw_0 26 rfl) rfl ?_
  refine j_ixor (q := 46) hx (dc kL_draw_0 27 rfl) rfl ?_
  refine j_istore_n (q := 47) (i := 2) (l2 := [(1, .int x1)]) hx (dc kL_draw_0 28 rfl) rfl (hn 2 (by decide)) [2] rfl ⟨⟨show (1 : Nat) ≠ 2 by decide, Or.inr rfl⟩, trivial⟩ rfl ?_
  exact j_sub [1, 0] rfl (hb47 x1 ((v5 + (v7 * (668265263 : Int32))) ^^^ (ushrI (v5 + (v7 * (668265263 : Int32))) (15 : Int32))) h9)

set_option maxHeartbeats 4000000 in
set_option maxRecDepth 100000 in
theorem sL_text (l : Launch) (w : Wd) (x0 : Nat) (x1 : Nat) (h : Hp) (u : Hp) (hK : mL_text x0 x1 h = some u) : M1 l w mi_L_text 5 [vR w x0, vR w x1] h u (none) := by
  refine M1.of (own := RL) (T := fun _ r => r = u) hK (by decide +kernel) rfl (by first | (simp only [lg_lenR, lg_lenI, lg_lenL, lg_len0]; decide) | decide) (fun x hx hnl hhf hl hw hret hnm hQ h0e => ⟨?_, rfl⟩)
  subst hw
  subst hl
  have hR : Rt x h u (none) (none) := ⟨h0e, hhf, hret, hQ⟩
  have hn : ∀ i, i < 5 → i < x.2.2.1.1.1 := fun i hi => by rw [hnl]; exact hi
  have e0 : lv_args 0 [vR x.2.2.2 x0, vR x.2.2.2 x1] = [(0, vR x.2.2.2 x0), (1, vR x.2.2.2 x1)] := by simp only [lv_argsR, lv_argsI, lv_argsL, lv_args0]
  rw [e0]
  have hb11 : ∀ (x0 : Nat) (x1 : Nat) (x2 : Int32) (h : Hp), J x 11 [(0, vR x.2.2.2 x0), (1, vR x.2.2.2 x1), (2, .int x2)] [] h (mL_text_l11 x0 x1 x2 h) (fun r => r = u) := by
    intro x0 x1 x2 h
    have hB : ∀ (x2 : Int32) (h : Hp), J x 11 [(0, vR x.2.2.2 x0), (1, vR x.2.2.2 x1), (2, .int x2)] [] h (mL_text_l11f x0 x1 x2 h) (TLo (S := (Int32 × Hp)) x 11 (fun s => [(0, vR x.2.2.2 x0), (1, vR x.2.2.2 x1), (2, .int s.1)]) [] (fun s => s.2) (fun r => r = u)) := by
      intro x2 h
      have hb24 : ∀ (x0 : Nat) (x1 : Nat) (x2 : Int32) (x3 : Int32) (x4 : Int32) (h : Hp), J x 24 [(0, vR x.2.2.2 x0), (1, vR x.2.2.2 x1), (2, .int x2), (3, .int x3), (4, .int x4)] [] h (mL_text_l24 x0 x1 x2 x3 x4 h) (TLo (S := (Int32 × Hp)) x 11 (fun s => [(0, vR x.2.2.2 x0), (1, vR x.2.2.2 x1), (2, .int s.1)]) [] (fun s => s.2) (fun r => r = u)) := by
        intro x0 x1 x2 x3 x4 h
        have hB : ∀ (x3 : Int32) (x4 : Int32), J x 24 [(0, vR x.2.2.2 x0), (1, vR x.2.2.2 x1), (2, .int x2), (3, .int x3), (4, .int x4)] [] h (mL_text_l24f x0 x1 x2 h x3 x4) (TLo (S := (Int32 × Int32)) x 24 (fun s => [(0, vR x.2.2.2 x0), (1, vR x.2.2.2 x1), (2, .int x2), (3, .int s.1), (4, .int s.2)]) [] (fun s => h) (TLo (S := (Int32 × Hp)) x 11 (fun s => [(0, vR x.2.2.2 x0), (1, vR x.2.2.2 x1), (2, .int s.1)]) [] (fun s => s.2) (fun r => r = u))) := by
          intro x3 x4
          have hb61 : ∀ (x0 : Nat) (x1 : Nat) (x2 : Int32) (x4 : Int32) (t0 : Int32) (t1 : Int32) (h : Hp), J x 61 [(0, vR x.2.2.2 x0), (1, vR x.2.2.2 x1), (2, .int x2), (4, .int x4)] [.int t1, .int t0] h (mL_text_b61 x0 x1 x2 x4 t0 t1 h) (TLo (S := (Int32 × Int32)) x 24 (fun s => [(0, vR x.2.2.2 x0), (1, vR x.2.2.2 x1), (2, .int x2), (3, .int s.1), (4, .int s.2)]) [] (fun s => h) (TLo (S := (Int32 × Hp)) x 11 (fun s => [(0, vR x.2.2.2 x0), (1, vR x.2.2.2 x1), (2, .int s.1)]) [] (fun s => s.2) (fun r => r = u))) := by
            intro x0 x1 x2 x4 t0 t1 h
            unfold mL_text_b61
            refine j_ior (q := 62) hx (dc kL_text_0 36 rfl) rfl ?_
            refine j_istore_n (q := 63) (i := 3) (l2 := [(0, vR x.2.2.2 x0), (1, vR x.2.2.2 x1), (2, .int x2), (4, .int x4)]) hx (dc kL_text_0 37 rfl) rfl (hn 3 (by decide)) [0, 1, 2, 3] rfl ⟨⟨show (0 : Nat) ≠ 3 by decide, Or.inl (show (0 : Nat) + 1 ≠ 3 by decide)⟩, ⟨⟨show (1 : Nat) ≠ 3 by decide, Or.inl (show (1 : Nat) + 1 ≠ 3 by decide)⟩, ⟨⟨show (2 : Nat) ≠ 3 by decide, Or.inr rfl⟩, ⟨⟨show (4 : Nat) ≠ 3 by decide, Or.inl (show (4 : Nat) + 1 ≠ 3 by decide)⟩, trivial⟩⟩⟩⟩ rfl ?_
            refine j_iinc (q := 66) (l2 := [(3, .int (t0 ||| t1)), (0, vR x.2.2.2 x0), (1, vR x.2.2.2 x1), (2, .int x2)]) hx (dc kL_text_0 38 rfl) 4 rfl (v := (1 : Int32)) (by decide) (hn 4 (by decide)) [0, 1, 2, 3] rfl ⟨⟨show (3 : Nat) ≠ 4 by decide, Or.inr rfl⟩, ⟨⟨show (0 : Nat) ≠ 4 by decide, Or.inl (show (0 : Nat) + 1 ≠ 4 by decide)⟩, ⟨⟨show (1 : Nat) ≠ 4 by decide, Or.inl (show (1 : Nat) + 1 ≠ 4 by decide)⟩, ⟨⟨show (2 : Nat) ≠ 4 by decide, Or.inl (show (2 : Nat) + 1 ≠ 4 by decide)⟩, trivial⟩⟩⟩⟩ rfl ?_
            refine j_goto (q := 24) hx (dc kL_text_0 39 rfl) (by decide) ?_
            exact j_back [2, 3, 4, 1, 0] ((t0 ||| t1), (x4 + (1 : Int32))) rfl rfl
          unfold mL_text_l24f
          refine j_iload (q := 26) hx (dc kL_text_0 15 rfl) 4 rfl rfl ?_
          refine j_iconst (q := 27) (v := (4 : Int32)) hx (dc kL_text_0 16 rfl) (by decide) rfl ?_
          refine j_icmp_geS (q := 30) (tgt := 69) hx (dc kL_text_0 17 rfl) (by decide) rfl ?_ ?_
          · refine j_exit ?_
            refine j_aload_n (q := 70) hx (dc kL_text_0 40 rfl) rfl 0 rfl rfl ?_
            refine w_gR (q := 73) hx (dc kL_text_0 41 rfl) ff_L_0 lk_L_10 rfl (fun v11 => ?_)
            refine j_iload_n (q := 74) hx (dc kL_text_0 42 rfl) rfl 3 rfl rfl ?_
            refine w_cVIW (q := 77) (As := [.int x3]) (st := []) hx (dc kL_text_0 43 rfl) cf11 (by decide) rfl (cI _ my_X11_sign lm_L_71 (by decide)) vs_X11_sign rfl (fun u hu => sX11_sign _ _ _ _ _ _ hu) (fun e => ite_ne (by unfold mX11_sign at e; exact e)) (Nat.zero_le _) rfl (fun v12 h13 => ?_)
            refine j_pop (q := 78) hx (dc kL_text_0 44 rfl) rfl rfl ?_
            refine j_iinc (q := 81) (l2 := [(0, vR x.2.2.2 x0), (1, vR x.2.2.2 x1)]) hx (dc kL_text_0 45 rfl) 2 rfl (v := (4 : Int32)) (by decide) (hn 2 (by decide)) [0, 1] rfl ⟨⟨show (0 : Nat) ≠ 2 by decide, Or.inl (show (0 : Nat) + 1 ≠ 2 by decide)⟩, ⟨⟨show (1 : Nat) ≠ 2 by decide, Or.inr (vR_cat _ _)⟩, trivial⟩⟩ rfl ?_
            refine j_goto (q := 11) hx (dc kL_text_0 46 rfl) (by decide) ?_
            exact j_back [1, 2, 0] ((x2 + (4 : Int32)), h13) rfl rfl
          · refine j_iload_n (q := 31) hx (dc kL_text_0 18 rfl) rfl 3 rfl rfl ?_
            refine j_bipush (q := 33) (v := (8 : Int32)) hx (dc kL_text_0 19 rfl) (by decide) rfl ?_
            refine j_ishl (q := 34) hx (dc kL_text_0 20 rfl) rfl ?_
            refine j_iload_n (q := 35) hx (dc kL_text_0 21 rfl) rfl 2 rfl rfl ?_
            refine j_iload (q := 37) hx (dc kL_text_0 22 rfl) 4 rfl rfl ?_
            refine j_iadd (q := 38) hx (dc kL_text_0 23 rfl) rfl ?_
            refine j_aload_n (q := 39) hx (dc kL_text_0 24 rfl) rfl 1 rfl rfl ?_
            refine w_cTIR (q := 42) (As := []) (st := [.int (x2 + x4), .int (x3 <<< ((8 : Int32) &&& 31))]) hx (dc kL_text_0 25 rfl) (cI _ my_J0_length_8abf5 lm_L_61 (by decide)) vs_J0_length_8abf5 rfl (fun u hu => sJ0_length_8abf5 _ _ _ _ _ hu) rfl (fun e => ite_ne (by unfold mJ0_length_8abf5 at e; exact e)) (sum_le (sum_I (sum_I sum_nil)) (by decide)) rfl (fun v14 => ?_)
            refine j_icmp_geS (q := 45) (tgt := 60) hx (dc kL_text_0 26 rfl) (by decide) rfl ?_ ?_
            · refine j_iconst (q := 61) (v := (0 : Int32)) hx (dc kL_text_0 35 rfl) (by decide) rfl ?_
              exact j_sub [0, 1, 2, 4] rfl (hb61 x0 x1 x2 x4 (x3 <<< ((8 : Int32) &&& 31)) (0 : Int32) h)
            · refine j_aload_n (q := 46) hx (dc kL_text_0 27 rfl) rfl 1 rfl rfl ?_
              refine j_iload_n (q := 47) hx (dc kL_text_0 28 rfl) rfl 2 rfl rfl ?_
              refine j_iload (q := 49) hx (dc kL_text_0 29 rfl) 4 rfl rfl ?_
              refine j_iadd (q := 50) hx (dc kL_text_0 30 rfl) rfl ?_
              refine w_cTIR (q := 53) (As := [.int (x2 + x4)]) (st := [.int (x3 <<< ((8 : Int32) &&& 31))]) hx (dc kL_text_0 31 rfl) (cI _ my_J0_charAt_5068e lm_L_67 (by decide)) vs_J0_charAt_5068e rfl (fun u hu => sJ0_charAt_5068e _ _ _ _ _ _ hu) rfl (fun e => ite_ne (by unfold mJ0_charAt_5068e at e; exact e)) (sum_le (sum_I sum_nil) (by decide)) rfl (fun v16 => ?_)
              refine j_sipush (q := 56) (v := (255 : Int32)) hx (dc kL_text_0 32 rfl) (by decide) rfl ?_
              refine j_iand (q := 57) hx (dc kL_text_0 33 rfl) rfl ?_
              refine j_goto (q := 61) hx (dc kL_text_0 34 rfl) (by decide) ?_
              exact j_sub [0, 1, 2, 4] rfl (hb61 x0 x1 x2 x4 (x3 <<< ((8 : Int32) &&& 31)) (v16 &&& (255 : Int32)) h)
        exact j_loop (S := (Int32 × Int32)) (lvf := fun s => [(0, vR x.2.2.2 x0), (1, vR x.2.2.2 x1), (2, .int x2), (3, .int s.1), (4, .int s.2)]) (hpf := fun s => h) (f := (fun s : (Int32 × Int32) => mL_text_l24f x0 x1 x2 h s.1 s.2)) (fun s => hB s.1 s.2) (x3, x4)
      unfold mL_text_l11f
      refine j_iload_n (q := 12) hx (dc kL_text_0 7 rfl) rfl 2 rfl rfl ?_
      refine j_aload_n (q := 13) hx (dc kL_text_0 8 rfl) rfl 1 rfl rfl ?_
      refine w_cTIR (q := 16) (As := []) (st := [.int x2]) hx (dc kL_text_0 9 rfl) (cI _ my_J0_length_8abf5 lm_L_61 (by decide)) vs_J0_length_8abf5 rfl (fun u hu => sJ0_length_8abf5 _ _ _ _ _ hu) rfl (fun e => ite_ne (by unfold mJ0_length_8abf5 at e; exact e)) (sum_le (sum_I sum_nil) (by decide)) rfl (fun v4 => ?_)
      refine j_icmp_geS (q := 19) (tgt := 84) hx (dc kL_text_0 10 rfl) (by decide) rfl ?_ ?_
      · refine j_exit ?_
        refine j_aload_n (q := 85) hx (dc kL_text_0 47 rfl) rfl 0 rfl rfl ?_
        refine w_gR (q := 88) hx (dc kL_text_0 48 rfl) ff_L_0 lk_L_10 rfl (fun v6 => ?_)
        refine j_aload_n (q := 89) hx (dc kL_text_0 49 rfl) rfl 1 rfl rfl ?_
        refine w_cTIR (q := 92) (As := []) (st := [vR x.2.2.2 v6]) hx (dc kL_text_0 50 rfl) (cI _ my_J0_length_8abf5 lm_L_61 (by decide)) vs_J0_length_8abf5 rfl (fun u hu => sJ0_length_8abf5 _ _ _ _ _ hu) rfl (fun e => ite_ne (by unfold mJ0_length_8abf5 at e; exact e)) (sum_le (sum_R sum_nil) (by decide)) rfl (fun v7 => ?_)
        refine w_cVIW (q := 95) (As := [.int v7]) (st := []) hx (dc kL_text_0 51 rfl) cf11 (by decide) rfl (cI _ my_X11_end lm_L_57 (by decide)) vs_X11_end rfl (fun u hu => sX11_end _ _ _ _ _ _ hu) (fun e => ite_ne (by unfold mX11_end at e; exact e)) (Nat.zero_le _) rfl (fun v9 h10 => ?_)
        refine j_pop (q := 96) hx (dc kL_text_0 52 rfl) rfl rfl ?_
        exact r_vW hx hR (dc kL_text_0 53 rfl)
      · refine j_iconst (q := 20) (v := (0 : Int32)) hx (dc kL_text_0 11 rfl) (by decide) rfl ?_
        refine j_istore_n (q := 21) (i := 3) (l2 := [(0, vR x.2.2.2 x0), (1, vR x.2.2.2 x1), (2, .int x2)]) hx (dc kL_text_0 12 rfl) rfl (hn 3 (by decide)) [0, 1, 2] rfl ⟨⟨show (0 : Nat) ≠ 3 by decide, Or.inl (show (0 : Nat) + 1 ≠ 3 by decide)⟩, ⟨⟨show (1 : Nat) ≠ 3 by decide, Or.inl (show (1 : Nat) + 1 ≠ 3 by decide)⟩, ⟨⟨show (2 : Nat) ≠ 3 by decide, Or.inr rfl⟩, trivial⟩⟩⟩ rfl ?_
        refine j_iconst (q := 22) (v := (0 : Int32)) hx (dc kL_text_0 13 rfl) (by decide) rfl ?_
        refine j_istore (q := 24) (i := 4) (l2 := [(3, .int (0 : Int32)), (0, vR x.2.2.2 x0), (1, vR x.2.2.2 x1), (2, .int x2)]) hx (dc kL_text_0 14 rfl) (hn 4 (by decide)) [0, 1, 2, 3] rfl ⟨⟨show (3 : Nat) ≠ 4 by decide, Or.inr rfl⟩, ⟨⟨show (0 : Nat) ≠ 4 by decide, Or.inl (show (0 : Nat) + 1 ≠ 4 by decide)⟩, ⟨⟨show (1 : Nat) ≠ 4 by decide, Or.inl (show (1 : Nat) + 1 ≠ 4 by decide)⟩, ⟨⟨show (2 : Nat) ≠ 4 by decide, Or.inl (show (2 : Nat) + 1 ≠ 4 by decide)⟩, trivial⟩⟩⟩⟩ rfl ?_
        exact j_sub [2, 3, 4, 1, 0] rfl (hb24 x0 x1 x2 (0 : Int32) (0 : Int32) h)
    exact j_loop (S := (Int32 × Hp)) (lvf := fun s => [(0, vR x.2.2.2 x0), (1, vR x.2.2.2 x1), (2, .int s.1)]) (hpf := fun s => s.2) (f := (fun s : (Int32 × Hp) => mL_text_l11f x0 x1 s.1 s.2)) (fun s => hB s.1 s.2) (x2, h)
  unfold mL_text
  refine J.ckd fun hck => ?_
  refine j_aload_n (q := 1) hx (dc kL_text_0 0 rfl) rfl 0 rfl rfl ?_
  refine w_gR (q := 4) hx (dc kL_text_0 1 rfl) ff_L_0 lk_L_10 rfl (fun v1 => ?_)
  refine j_iconst (q := 5) (v := (0 : Int32)) hx (dc kL_text_0 2 rfl) (by decide) rfl ?_
  refine w_cVIW (q := 8) (As := [.int (0 : Int32)]) (st := []) hx (dc kL_text_0 3 rfl) cf11 (by decide) rfl (cI _ my_X11_end lm_L_57 (by decide)) vs_X11_end rfl (fun u hu => sX11_end _ _ _ _ _ _ hu) (fun e => ite_ne (by unfold mX11_end at e; exact e)) (Nat.zero_le _) rfl (fun v2 h3 => ?_)
  refine j_pop (q := 9) hx (dc kL_text_0 4 rfl) rfl rfl ?_
  refine j_iconst (q := 10) (v := (0 : Int32)) hx (dc kL_text_0 5 rfl) (by decide) rfl ?_
  refine j_istore_n (q := 11) (i := 2) (l2 := [(0, vR x.2.2.2 x0), (1, vR x.2.2.2 x1)]) hx (dc kL_text_0 6 rfl) rfl (hn 2 (by decide)) [0, 1] rfl ⟨⟨show (0 : Nat) ≠ 2 by decide, Or.inl (show (0 : Nat) + 1 ≠ 2 by decide)⟩, ⟨⟨show (1 : Nat) ≠ 2 by decide, Or.inr (vR_cat _ _)⟩, trivial⟩⟩ rfl ?_
  exact j_sub [1, 2, 0] rfl (hb11 x0 x1 (0 : Int32) h3)

set_option maxHeartbeats 4000000 in
set_option maxRecDepth 100000 in
theorem sL_said_F (d : Nat) (hd : 2 ≤ d) (g : GTL_said) (hg0 : ∀ (l : Launch) (w : Wd) (x0 : Nat) (x1 : Int32) (x2 : Int32) (h : Hp) (u : (Nat × Hp)), g x0 x1 x2 h = some u → M1 l w mi_L_said d [vR w x0, .int x1, .int x2] h u.2 (some (vR w u.1))) (hk0 : ∀ (x0 : Nat) (x1 : Int32) (x2 : Int32) (h : Hp), g x0 x1 x2 h ≠ none → (hpS h x0).1 = 16) (l : Launch) (w : Wd) (x0 : Nat) (x1 : Int32) (x2 : Int32) (h : Hp) (u : (Nat × Hp)) (hK : mL_said_F g x0 x1 x2 h = some u) : M1 l w mi_L_said (d + 1) [vR w x0, .int x1, .int x2] h u.2 (some (vR w u.1)) := by
  refine M1.of (own := RL) (T := fun _ r => r = u) hK (by decide +kernel) rfl (by first | (simp only [lg_lenR, lg_lenI, lg_lenL, lg_len0]; decide) | decide) (fun x hx hnl hhf hl hw hret hnm hQ h0e => ⟨?_, rfl⟩)
  subst hw
  subst hl
  have hR : Rt x h u.2 (some (vR x.2.2.2 u.1)) ((some (.object "StruckCountsLaw$Said"))) := ⟨h0e, hhf, hret, hQ⟩
  have hn : ∀ i, i < 6 → i < x.2.2.1.1.1 := fun i hi => by rw [hnl]; exact hi
  have e0 : lv_args 0 [vR x.2.2.2 x0, .int x1, .int x2] = [(0, vR x.2.2.2 x0), (1, .int x1), (2, .int x2)] := by simp only [lv_argsR, lv_argsI, lv_argsL, lv_args0]
  rw [e0]
  have hb24 : ∀ (x0 : Nat) (x1 : Int32) (h : Hp), J x 24 [(0, vR x.2.2.2 x0), (1, .int x1)] [] h (mL_said_b24 g x0 x1 h) (fun r => r = u) := by
    intro x0 x1 h
    unfold mL_said_b24
    refine j_new (q := 27) hx (dc kL_said_0 13 rfl) cf13 (by decide) nw_L_78 rfl (fun v4 hvv4 h3 => ?_)
    refine j_dup (q := 28) hx (dc kL_said_0 14 rfl) (vR_cat _ _) rfl ?_
    refine j_iconst (q := 29) (v := (0 : Int32)) hx (dc kL_said_0 15 rfl) (by decide) rfl ?_
    refine j_aload_n (q := 30) hx (dc kL_said_0 16 rfl) rfl 0 rfl rfl ?_
    refine j_iload_n (q := 31) hx (dc kL_said_0 17 rfl) rfl 1 rfl rfl ?_
    refine w_cVIW (q := 34) (As := [.int x1]) (st := [.int (0 : Int32), vR x.2.2.2 v4, vR x.2.2.2 v4]) hx (dc kL_said_0 18 rfl) cf15 (by decide) rfl (cI _ my_L_draw lm_L_75 (by omega)) vs_L_draw rfl (fun u hu => sL_draw _ _ _ _ _ _ hu) (fun e => ite_ne (by unfold mL_draw at e; exact e)) (sum_le (sum_I (sum_R (sum_R sum_nil))) (by decide)) rfl (fun v5 h6 => ?_)
    refine j_null (q := 35) hx (dc kL_said_0 19 rfl) rfl ?_
    refine w_cIVW (q := 38) (As := [.int (0 : Int32), .int v5, vR x.2.2.2 0]) (st := [vR x.2.2.2 v4]) hx (dc kL_said_0 20 rfl) (cI _ my_X13_init lm_L_80 (by omega)) is_X13_init rfl rfl (fun u hu => sX13_init hvv4 _ _ _ _ _ _ _ hu) hvv4 (sum_le (sum_R sum_nil) (by decide)) rfl (fun h8 => ?_)
    exact r_aW hx (Or.inl ⟨_, rfl⟩) hR (dc kL_said_0 21 rfl)
  have hb113 : ∀ (x4 : Nat) (t0 : Nat) (t1 : Nat) (t2 : Int32) (t3 : Int32) (h : Hp), J x 113 [(4, vR x.2.2.2 x4)] [.int t3, .int t2, vR x.2.2.2 t1, vR x.2.2.2 t0] h (mL_said_b113 g x4 t0 t1 t2 t3 h) (fun r => r = u) := by
    intro x4 t0 t1 t2 t3 h
    unfold mL_said_b113
    refine j_aload (q := 115) hx (dc kL_said_1 1 rfl) 0 rfl rfl ?_
    refine j_ng (fun hvt1 => ?_)
    refine w_cIVW (q := 118) (As := [.int t2, .int t3, vR x.2.2.2 x4]) (st := [vR x.2.2.2 t0]) hx (dc kL_said_1 2 rfl) (cI _ my_X13_init lm_L_80 (by omega)) is_X13_init rfl rfl (fun u hu => sX13_init hvt1 _ _ _ _ _ _ _ hu) hvt1 (sum_le (sum_R sum_nil) (by decide)) rfl (fun h17 => ?_)
    exact r_aW hx (Or.inl ⟨_, rfl⟩) hR (dc kL_said_1 3 rfl)
  have hb63 : ∀ (x0 : Nat) (x1 : Int32) (x2 : Int32) (x3 : Int32) (x4 : Nat) (x5 : Int32) (h : Hp), J x 63 [(0, vR x.2.2.2 x0), (1, .int x1), (2, .int x2), (3, .int x3), (4, vR x.2.2.2 x4), (5, .int x5)] [] h (mL_said_l63 g x0 x1 x2 x3 x4 x5 h) (fun r => r = u) := by
    intro x0 x1 x2 x3 x4 x5 h
    have hB : ∀ (x5 : Int32) (h : Hp), J x 63 [(0, vR x.2.2.2 x0), (1, .int x1), (2, .int x2), (3, .int x3), (4, vR x.2.2.2 x4), (5, .int x5)] [] h (mL_said_l63f g x0 x1 x2 x3 x4 x5 h) (TLo (S := (Int32 × Hp)) x 63 (fun s => [(0, vR x.2.2.2 x0), (1, .int x1), (2, .int x2), (3, .int x3), (4, vR x.2.2.2 x4), (5, .int s.1)]) [] (fun s => s.2) (fun r => r = u)) := by
      intro x5 h
      unfold mL_said_l63f
      refine j_iload (q := 65) hx (dc kL_said_0 36 rfl) 5 rfl rfl ?_
      refine j_aload (q := 67) hx (dc kL_said_0 37 rfl) 4 rfl rfl ?_
      refine j_alen (q := 68) hx (dc kL_said_0 38 rfl) rfl (fun v13 => ?_)
      refine j_icmp_geS (q := 71) (tgt := 90) hx (dc kL_said_0 39 rfl) (by decide) rfl ?_ ?_
      · refine j_exit ?_
        refine j_new (q := 93) hx (dc kL_said_0 51 rfl) cf13 (by decide) nw_L_78 rfl (fun v15 hvv15 h14 => ?_)
        refine j_dup (q := 94) hx (dc kL_said_0 52 rfl) (vR_cat _ _) rfl ?_
        refine j_iload_n (q := 95) hx (dc kL_said_0 53 rfl) rfl 3 rfl rfl ?_
        refine j_iload_n (q := 96) hx (dc kL_said_0 54 rfl) rfl 3 rfl rfl ?_
        refine j_iconst (q := 97) (v := (4 : Int32)) hx (dc kL_said_0 55 rfl) (by decide) rfl ?_
        refine j_icmp_neS (q := 100) (tgt := 112) hx (dc kL_said_0 56 rfl) (by decide) rfl ?_ ?_
        · refine j_iconst (q := 113) (v := (0 : Int32)) hx (dc kL_said_1 0 rfl) (by decide) rfl ?_
          exact j_sub [4] rfl (hb113 x4 v15 v15 x3 (0 : Int32) h14)
        · refine j_aload_n (q := 101) hx (dc kL_said_0 57 rfl) rfl 0 rfl rfl ?_
          refine j_aload (q := 103) hx (dc kL_said_0 58 rfl) 4 rfl rfl ?_
          refine j_alen (q := 104) hx (dc kL_said_0 59 rfl) rfl (fun v18 => ?_)
          refine j_iconst (q := 105) (v := (1 : Int32)) hx (dc kL_said_0 60 rfl) (by decide) rfl ?_
          refine j_iadd (q := 106) hx (dc kL_said_0 61 rfl) rfl ?_
          refine w_cVIW (q := 109) (As := [.int (v18 + (1 : Int32))]) (st := [.int x3, vR x.2.2.2 v15, vR x.2.2.2 v15]) hx (dc kL_said_0 62 rfl) cf15 (by decide) rfl (cI _ my_L_draw lm_L_75 (by omega)) vs_L_draw rfl (fun u hu => sL_draw _ _ _ _ _ _ hu) (fun e => ite_ne (by unfold mL_draw at e; exact e)) (sum_le (sum_I (sum_R (sum_R sum_nil))) (by decide)) rfl (fun v19 h20 => ?_)
          refine j_goto (q := 113) hx (dc kL_said_0 63 rfl) (by decide) ?_
          exact j_sub [4] rfl (hb113 x4 v15 v15 x3 v19 h20)
      · refine j_aload (q := 73) hx (dc kL_said_0 40 rfl) 4 rfl rfl ?_
        refine j_iload (q := 75) hx (dc kL_said_0 41 rfl) 5 rfl rfl ?_
        refine j_aload_n (q := 76) hx (dc kL_said_0 42 rfl) rfl 0 rfl rfl ?_
        refine j_iload_n (q := 77) hx (dc kL_said_0 43 rfl) rfl 1 rfl rfl ?_
        refine j_iload_n (q := 78) hx (dc kL_said_0 44 rfl) rfl 2 rfl rfl ?_
        refine j_iconst (q := 79) (v := (1 : Int32)) hx (dc kL_said_0 45 rfl) (by decide) rfl ?_
        refine j_isub (q := 80) hx (dc kL_said_0 46 rfl) rfl ?_
        refine w_cVRW (q := 83) (As := [.int x1, .int (x2 - (1 : Int32))]) (st := [.int x5, vR x.2.2.2 x4]) hx (dc kL_said_0 47 rfl) cf15 (by decide) rfl (cI _ my_L_said lm_L_83 (by omega)) vs_L_said rfl (fun u hu => hg0 _ _ _ _ _ _ _ hu) (hk0 _ _ _ _) (sum_le (sum_I (sum_R sum_nil)) (by decide)) rfl (fun v21 h22 => ?_)
        refine w_stR (t := 2) (q := 84) hx (dc kL_said_0 48 rfl) rfl (by decide) rfl cf13 (fun h23 => ?_)
        refine j_iinc (q := 87) (l2 := [(0, vR x.2.2.2 x0), (1, .int x1), (2, .int x2), (3, .int x3), (4, vR x.2.2.2 x4)]) hx (dc kL_said_0 49 rfl) 5 rfl (v := (1 : Int32)) (by decide) (hn 5 (by decide)) [0, 1, 2, 3, 4] rfl ⟨⟨show (0 : Nat) ≠ 5 by decide, Or.inl (show (0 : Nat) + 1 ≠ 5 by decide)⟩, ⟨⟨show (1 : Nat) ≠ 5 by decide, Or.inl (show (1 : Nat) + 1 ≠ 5 by decide)⟩, ⟨⟨show (2 : Nat) ≠ 5 by decide, Or.inl (show (2 : Nat) + 1 ≠ 5 by decide)⟩, ⟨⟨show (3 : Nat) ≠ 5 by decide, Or.inl (show (3 : Nat) + 1 ≠ 5 by decide)⟩, ⟨⟨show (4 : Nat) ≠ 5 by decide, Or.inr (vR_cat _ _)⟩, trivial⟩⟩⟩⟩⟩ rfl ?_
        refine j_goto (q := 63) hx (dc kL_said_0 50 rfl) (by decide) ?_
        exact j_back [1, 2, 3, 4, 5, 0] ((x5 + (1 : Int32)), h23) rfl rfl
    exact j_loop (S := (Int32 × Hp)) (lvf := fun s => [(0, vR x.2.2.2 x0), (1, .int x1), (2, .int x2), (3, .int x3), (4, vR x.2.2.2 x4), (5, .int s.1)]) (hpf := fun s => s.2) (f := (fun s : (Int32 × Hp) => mL_said_l63f g x0 x1 x2 x3 x4 s.1 s.2)) (fun s => hB s.1 s.2) (x5, h)
  have hb55 : ∀ (x0 : Nat) (x1 : Int32) (x2 : Int32) (x3 : Int32) (t0 : Int32) (h : Hp), J x 55 [(0, vR x.2.2.2 x0), (1, .int x1), (2, .int x2), (3, .int x3)] [.int t0] h (mL_said_b55 g x0 x1 x2 x3 t0 h) (fun r => r = u) := by
    intro x0 x1 x2 x3 t0 h
    unfold mL_said_b55
    refine j_anewarrayV73 (q := 58) hx (dc kL_said_0 32 rfl) na_L_78 rfl (fun v12 hvv12 h11 => ?_)
    refine j_astore (q := 60) (i := 4) (l2 := [(0, vR x.2.2.2 x0), (1, .int x1), (2, .int x2), (3, .int x3)]) hx (dc kL_said_0 33 rfl) (hn 4 (by decide)) [0, 1, 2, 3] rfl ⟨⟨show (0 : Nat) ≠ 4 by decide, Or.inl (show (0 : Nat) + 1 ≠ 4 by decide)⟩, ⟨⟨show (1 : Nat) ≠ 4 by decide, Or.inl (show (1 : Nat) + 1 ≠ 4 by decide)⟩, ⟨⟨show (2 : Nat) ≠ 4 by decide, Or.inl (show (2 : Nat) + 1 ≠ 4 by decide)⟩, ⟨⟨show (3 : Nat) ≠ 4 by decide, Or.inr rfl⟩, trivial⟩⟩⟩⟩ rfl ?_
    refine j_iconst (q := 61) (v := (0 : Int32)) hx (dc kL_said_0 34 rfl) (by decide) rfl ?_
    refine j_istore (q := 63) (i := 5) (l2 := [(4, vR x.2.2.2 v12), (0, vR x.2.2.2 x0), (1, .int x1), (2, .int x2), (3, .int x3)]) hx (dc kL_said_0 35 rfl) (hn 5 (by decide)) [0, 1, 2, 3, 4] rfl ⟨⟨show (4 : Nat) ≠ 5 by decide, Or.inr (vR_cat _ _)⟩, ⟨⟨show (0 : Nat) ≠ 5 by decide, Or.inl (show (0 : Nat) + 1 ≠ 5 by decide)⟩, ⟨⟨show (1 : Nat) ≠ 5 by decide, Or.inl (show (1 : Nat) + 1 ≠ 5 by decide)⟩, ⟨⟨show (2 : Nat) ≠ 5 by decide, Or.inl (show (2 : Nat) + 1 ≠ 5 by decide)⟩, ⟨⟨show (3 : Nat) ≠ 5 by decide, Or.inl (show (3 : Nat) + 1 ≠ 5 by decide)⟩, trivial⟩⟩⟩⟩⟩ rfl ?_
    exact j_sub [2, 3, 4, 5, 1, 0] rfl (hb63 x0 x1 x2 x3 v12 (0 : Int32) h11)
  have hb14 : ∀ (x0 : Nat) (x1 : Int32) (x2 : Int32) (t0 : Int32) (h : Hp), J x 14 [(0, vR x.2.2.2 x0), (1, .int x1), (2, .int x2)] [.int t0] h (mL_said_b14 g x0 x1 x2 t0 h) (fun r => r = u) := by
    intro x0 x1 x2 t0 h
    unfold mL_said_b14
    refine j_istore_n (q := 15) (i := 3) (l2 := [(0, vR x.2.2.2 x0), (1, .int x1), (2, .int x2)]) hx (dc kL_said_0 7 rfl) rfl (hn 3 (by decide)) [0, 1, 2] rfl ⟨⟨show (0 : Nat) ≠ 3 by decide, Or.inl (show (0 : Nat) + 1 ≠ 3 by decide)⟩, ⟨⟨show (1 : Nat) ≠ 3 by decide, Or.inl (show (1 : Nat) + 1 ≠ 3 by decide)⟩, ⟨⟨show (2 : Nat) ≠ 3 by decide, Or.inr rfl⟩, trivial⟩⟩⟩ rfl ?_
    refine j_iload_n (q := 16) hx (dc kL_said_0 8 rfl) rfl 0 rfl rfl ?_
    refine j_if_eq (q := 19) (tgt := 24) hx (dc kL_said_0 9 rfl) (by decide) Iff.rfl rfl ?_ ?_
    · exact j_sub [1, 2] rfl (hb24 x0 x1 h)
    · refine j_iload_n (q := 20) hx (dc kL_said_0 10 rfl) rfl 0 rfl rfl ?_
      refine j_iconst (q := 21) (v := (5 : Int32)) hx (dc kL_said_0 11 rfl) (by decide) rfl ?_
      refine j_icmp_neS (q := 24) (tgt := 39) hx (dc kL_said_0 12 rfl) (by decide) rfl ?_ ?_
      · refine j_iload_n (q := 40) hx (dc kL_said_0 22 rfl) rfl 0 rfl rfl ?_
        refine j_iconst (q := 41) (v := (1 : Int32)) hx (dc kL_said_0 23 rfl) (by decide) rfl ?_
        refine j_icmp_neS (q := 44) (tgt := 48) hx (dc kL_said_0 24 rfl) (by decide) rfl ?_ ?_
        · refine j_iconst (q := 49) (v := (2 : Int32)) hx (dc kL_said_0 27 rfl) (by decide) rfl ?_
          refine j_aload_n (q := 50) hx (dc kL_said_0 28 rfl) rfl 1 rfl rfl ?_
          refine j_iconst (q := 51) (v := (2 : Int32)) hx (dc kL_said_0 29 rfl) (by decide) rfl ?_
          refine w_cVIW (q := 54) (As := [.int (2 : Int32)]) (st := [.int (2 : Int32)]) hx (dc kL_said_0 30 rfl) cf15 (by decide) rfl (cI _ my_L_draw lm_L_75 (by omega)) vs_L_draw rfl (fun u hu => sL_draw _ _ _ _ _ _ hu) (fun e => ite_ne (by unfold mL_draw at e; exact e)) (sum_le (sum_I sum_nil) (by decide)) rfl (fun v9 h10 => ?_)
          refine j_iadd (q := 55) hx (dc kL_said_0 31 rfl) rfl ?_
          exact j_sub [1, 2, 3, 0] rfl (hb55 x0 x1 x2 t0 ((2 : Int32) + v9) h10)
        · refine j_iconst (q := 45) (v := (1 : Int32)) hx (dc kL_said_0 25 rfl) (by decide) rfl ?_
          refine j_goto (q := 55) hx (dc kL_said_0 26 rfl) (by decide) ?_
          exact j_sub [1, 2, 3, 0] rfl (hb55 x0 x1 x2 t0 (1 : Int32) h)
      · exact j_sub [1, 2] rfl (hb24 x0 x1 h)
  unfold mL_said_F
  refine J.ckd fun hck => ?_
  refine j_iload_n (q := 1) hx (dc kL_said_0 0 rfl) rfl 2 rfl rfl ?_
  refine j_if_neS (q := 4) (tgt := 8) hx (dc kL_said_0 1 rfl) (by decide) rfl ?_ ?_
  · refine j_aload_n (q := 9) hx (dc kL_said_0 4 rfl) rfl 0 rfl rfl ?_
    refine j_bipush (q := 11) (v := (6 : Int32)) hx (dc kL_said_0 5 rfl) (by decide) rfl ?_
    refine w_cVIW (q := 14) (As := [.int (6 : Int32)]) (st := []) hx (dc kL_said_0 6 rfl) cf15 (by decide) rfl (cI _ my_L_draw lm_L_75 (by omega)) vs_L_draw rfl (fun u hu => sL_draw _ _ _ _ _ _ hu) (fun e => ite_ne (by unfold mL_draw at e; exact e)) (Nat.zero_le _) rfl (fun v1 h2 => ?_)
    exact hb14 x0 x1 x2 v1 h2
  · refine j_iconst (q := 5) (v := (0 : Int32)) hx (dc kL_said_0 2 rfl) (by decide) rfl ?_
    refine j_goto (q := 14) hx (dc kL_said_0 3 rfl) (by decide) ?_
    exact hb14 x0 x1 x2 (0 : Int32) h
theorem sg_L_said : ∀ n : Nat, (∀ (l : Launch) (w : Wd) (x0 : Nat) (x1 : Int32) (x2 : Int32) (h : Hp) (u : (Nat × Hp)), mL_said n x0 x1 x2 h = some u → M1 l w mi_L_said (2 + n) [vR w x0, .int x1, .int x2] h u.2 (some (vR w u.1))) ∧
  (∀ (x0 : Nat) (x1 : Int32) (x2 : Int32) (h : Hp), mL_said n x0 x1 x2 h ≠ none → (hpS h x0).1 = 16) := by
  intro n
  induction n with
  | zero => exact ⟨fun _ _ _  _ _ _ _ e => (by cases e), fun _ _ _ _ e => absurd rfl e⟩
  | succ n ih =>
    obtain ⟨hg0, hk0⟩ := ih
    exact ⟨sL_said_F (2 + n) (by omega) (mg_L_said n) hg0 hk0, fun x0 x1 x2 h e => ite_ne (by have e2 : mL_said_F (mg_L_said n) x0 x1 x2 h ≠ none := e; unfold mL_said_F at e2; exact e2)⟩
theorem sL_said (n : Nat) (l : Launch) (w : Wd) (x0 : Nat) (x1 : Int32) (x2 : Int32) (h : Hp) (u : (Nat × Hp)) (hu : mL_said n x0 x1 x2 h = some u) : M1 l w mi_L_said (2 + n) [vR w x0, .int x1, .int x2] h u.2 (some (vR w u.1)) := (sg_L_said n).1 l w x0 x1 x2 h u hu
theorem kL_said (n : Nat) (x0 : Nat) (x1 : Int32) (x2 : Int32) (h : Hp) (e : mL_said n x0 x1 x2 h ≠ none) : (hpS h x0).1 = 16 := (sg_L_said n).2 x0 x1 x2 h e

set_option maxHeartbeats 4000000 in
set_option maxRecDepth 100000 in
theorem sL_can (l : Launch) (w : Wd) (x0 : Nat) (x1 : Int32) (h : Hp) (u : (Int32 × Hp)) (hK : mL_can x0 x1 h = some u) : M1 l w mi_L_can 42 [vR w x0, .int x1] h u.2 (some (.int u.1)) := by
  refine M1.of (own := RL) (T := fun _ r => r = u) hK (by decide +kernel) rfl (by first | (simp only [lg_lenR, lg_lenI, lg_lenL, lg_len0]; decide) | decide) (fun x hx hnl hhf hl hw hret hnm hQ h0e => ⟨?_, rfl⟩)
  subst hw
  subst hl
  have hR : Rt x h u.2 (some (.int u.1)) ((some .boolean)) := ⟨h0e, hhf, hret, hQ⟩
  have hn : ∀ i, i < 4 → i < x.2.2.1.1.1 := fun i hi => by rw [hnl]; exact hi
  have e0 : lv_args 0 [vR x.2.2.2 x0, .int x1] = [(0, vR x.2.2.2 x0), (1, .int x1)] := by simp only [lv_argsR, lv_argsI, lv_argsL, lv_args0]
  rw [e0]
  have hb19 : ∀ (x1 : Int32) (x2 : Nat) (h : Hp), J x 19 [(1, .int x1), (2, vR x.2.2.2 x2)] [] h (mL_can_l19 x1 x2 h) (fun r => r = u) := by
    intro x1 x2 h
    have hB : ∀ (h : Hp), J x 19 [(1, .int x1), (2, vR x.2.2.2 x2)] [] h (mL_can_l19f x1 x2 h) (TLo (S := Hp) x 19 (fun s => [(1, .int x1), (2, vR x.2.2.2 x2)]) [] (fun s => s) (fun r => r = u)) := by
      intro  h
      unfold mL_can_l19f
      refine j_aload_n (q := 20) hx (dc kL_can_0 11 rfl) rfl 1 rfl rfl ?_
      refine w_cFIR (q := 25) (As := []) (st := []) hx (dc kL_can_0 12 rfl) cf19 (by decide) (ci_L_94 (by decide)) fw_Jx35411_hasNext_aae02 rfl (fun u hu => sJx35411_hasNext_aae02 _ _ _ _ _ hu) (fun e => ite_ne (by unfold mJx35411_hasNext_aae02 at e; exact e)) (Nat.zero_le _) rfl (fun v5 => ?_)
      refine j_if_eq (q := 28) (tgt := 51) hx (dc kL_can_0 13 rfl) (by decide) Iff.rfl rfl ?_ ?_
      · refine j_exit ?_
        refine j_iconst (q := 52) (v := (1 : Int32)) hx (dc kL_can_0 25 rfl) (by decide) rfl ?_
        exact r_cW hx (Or.inr rfl) hR (dc kL_can_0 26 rfl)
      · refine j_aload_n (q := 29) hx (dc kL_can_0 14 rfl) rfl 1 rfl rfl ?_
        refine w_cFRW (q := 34) (As := []) (st := []) hx (dc kL_can_0 15 rfl) cf19 (by decide) (ci_L_100 (by decide)) fw_Jx35411_next_0502b rfl (fun u hu => sJx35411_next_0502b _ _ _ _ _ hu) (fun e => ite_ne (by unfold mJx35411_next_0502b at e; exact e)) (Nat.zero_le _) rfl (fun v7 h8 => ?_)
        refine j_ckC (q := 37) hx (dc kL_can_0 16 rfl) cl_L_78 cf13 (by decide) rfl ?_
        refine j_astore_n (q := 38) (i := 3) (l2 := [(1, .int x1), (2, vR x.2.2.2 x2)]) hx (dc kL_can_0 17 rfl) rfl (hn 3 (by decide)) [0, 1] rfl ⟨⟨show (1 : Nat) ≠ 3 by decide, Or.inl (show (1 : Nat) + 1 ≠ 3 by decide)⟩, ⟨⟨show (2 : Nat) ≠ 3 by decide, Or.inr (vR_cat _ _)⟩, trivial⟩⟩ rfl ?_
        refine j_aload_n (q := 39) hx (dc kL_can_0 18 rfl) rfl 0 rfl rfl ?_
        refine j_iload_n (q := 40) hx (dc kL_can_0 19 rfl) rfl 1 rfl rfl ?_
        refine w_cVIW (q := 43) (As := [.int x1]) (st := []) hx (dc kL_can_0 20 rfl) cf13 (by decide) rfl (cI _ my_X13_holds lm_L_103 (by decide)) vs_X13_holds rfl (fun u hu => sX13_holds 40 _ _ _ _ _ _ hu) (kX13_holds 40 _ _ _) (Nat.zero_le _) rfl (fun v9 h10 => ?_)
        refine j_if_eq (q := 46) (tgt := 48) hx (dc kL_can_0 21 rfl) (by decide) Iff.rfl rfl ?_ ?_
        · refine j_goto (q := 19) hx (dc kL_can_0 24 rfl) (by decide) ?_
          exact j_back [1, 2] h10 rfl rfl
        · refine j_exit ?_
          refine j_iconst (q := 47) (v := (0 : Int32)) hx (dc kL_can_0 22 rfl) (by decide) rfl ?_
          exact r_cW hx (Or.inl rfl) hR (dc kL_can_0 23 rfl)
    exact j_loop (S := Hp) (lvf := fun s => [(1, .int x1), (2, vR x.2.2.2 x2)]) (hpf := fun s => s) (f := (fun s : Hp => mL_can_l19f x1 x2 s)) (fun s => hB s) h
  unfold mL_can
  refine J.ckd fun hck => ?_
  refine j_iload_n (q := 1) hx (dc kL_can_0 0 rfl) rfl 1 rfl rfl ?_
  refine j_aload_n (q := 2) hx (dc kL_can_0 1 rfl) rfl 0 rfl rfl ?_
  refine w_gI (q := 5) hx (dc kL_can_0 2 rfl) ff_L_3 lk_L_87 rfl (fun v1 => ?_)
  refine j_ishr (q := 6) hx (dc kL_can_0 3 rfl) rfl ?_
  refine j_if_eq (q := 9) (tgt := 11) hx (dc kL_can_0 4 rfl) (by decide) Iff.rfl rfl ?_ ?_
  · refine j_aload_n (q := 12) hx (dc kL_can_0 7 rfl) rfl 0 rfl rfl ?_
    refine w_gR (q := 15) hx (dc kL_can_0 8 rfl) ff_L_7 lk_L_23 rfl (fun v2 => ?_)
    refine w_cVRW (q := 18) (As := []) (st := []) hx (dc kL_can_0 9 rfl) cf18 (by decide) rfl (cI _ my_Jx4a65c_iterator_32c93 lm_L_90 (by decide)) vs_Jx4a65c_iterator_32c93 rfl (fun u hu => sJx4a65c_iterator_32c93 _ _ _ _ _ hu) (fun e => ite_ne (by unfold mJx4a65c_iterator_32c93 at e; exact e)) (Nat.zero_le _) rfl (fun v3 h4 => ?_)
    refine j_astore_n (q := 19) (i := 2) (l2 := [(1, .int x1)]) hx (dc kL_can_0 10 rfl) rfl (hn 2 (by decide)) [1] rfl ⟨⟨show (1 : Nat) ≠ 2 by decide, Or.inr rfl⟩, trivial⟩ rfl ?_
    exact j_sub [1, 0] rfl (hb19 x1 v3 h4)
  · refine j_iconst (q := 10) (v := (0 : Int32)) hx (dc kL_can_0 5 rfl) (by decide) rfl ?_
    exact r_cW hx (Or.inl rfl) hR (dc kL_can_0 6 rfl)

set_option maxHeartbeats 4000000 in
set_option maxRecDepth 100000 in
theorem sL_some (l : Launch) (w : Wd) (x0 : Nat) (h : Hp) (u : (Int32 × Hp)) (hK : mL_some x0 h = some u) : M1 l w mi_L_some 43 [vR w x0] h u.2 (some (.int u.1)) := by
  refine M1.of (own := RL) (T := fun _ r => r = u) hK (by decide +kernel) rfl (by first | (simp only [lg_lenR, lg_lenI, lg_lenL, lg_len0]; decide) | decide) (fun x hx hnl hhf hl hw hret hnm hQ h0e => ⟨?_, rfl⟩)
  subst hw
  subst hl
  have hR : Rt x h u.2 (some (.int u.1)) ((some .boolean)) := ⟨h0e, hhf, hret, hQ⟩
  have hn : ∀ i, i < 2 → i < x.2.2.1.1.1 := fun i hi => by rw [hnl]; exact hi
  have e0 : lv_args 0 [vR x.2.2.2 x0] = [(0, vR x.2.2.2 x0)] := by simp only [lv_argsR, lv_argsI, lv_argsL, lv_args0]
  rw [e0]
  have hb2 : ∀ (x0 : Nat) (x1 : Int32) (h : Hp), J x 2 [(0, vR x.2.2.2 x0), (1, .int x1)] [] h (mL_some_l2 x0 x1 h) (fun r => r = u) := by
    intro x0 x1 h
    have hB : ∀ (x1 : Int32) (h : Hp), J x 2 [(0, vR x.2.2.2 x0), (1, .int x1)] [] h (mL_some_l2f x0 x1 h) (TLo (S := (Int32 × Hp)) x 2 (fun s => [(0, vR x.2.2.2 x0), (1, .int s.1)]) [] (fun s => s.2) (fun r => r = u)) := by
      intro x1 h
      unfold mL_some_l2f
      refine j_iload_n (q := 3) hx (dc kL_some_0 2 rfl) rfl 1 rfl rfl ?_
      refine j_iconst (q := 4) (v := (1 : Int32)) hx (dc kL_some_0 3 rfl) (by decide) rfl ?_
      refine j_aload_n (q := 5) hx (dc kL_some_0 4 rfl) rfl 0 rfl rfl ?_
      refine w_gI (q := 8) hx (dc kL_some_0 5 rfl) ff_L_3 lk_L_87 rfl (fun v1 => ?_)
      refine j_ishl (q := 9) hx (dc kL_some_0 6 rfl) rfl ?_
      refine j_icmp_geS (q := 12) (tgt := 28) hx (dc kL_some_0 7 rfl) (by decide) rfl ?_ ?_
      · refine j_exit ?_
        refine j_iconst (q := 29) (v := (0 : Int32)) hx (dc kL_some_0 16 rfl) (by decide) rfl ?_
        exact r_cW hx (Or.inl rfl) hR (dc kL_some_0 17 rfl)
      · refine j_aload_n (q := 13) hx (dc kL_some_0 8 rfl) rfl 0 rfl rfl ?_
        refine j_iload_n (q := 14) hx (dc kL_some_0 9 rfl) rfl 1 rfl rfl ?_
        refine w_cVIW (q := 17) (As := [.int x1]) (st := []) hx (dc kL_some_0 10 rfl) cf15 (by decide) rfl (cI _ my_L_can lm_L_106 (by decide)) vs_L_can rfl (fun u hu => sL_can _ _ _ _ _ _ hu) (fun e => ite_ne (by unfold mL_can at e; exact e)) (Nat.zero_le _) rfl (fun v2 h3 => ?_)
        refine j_if_eq (q := 20) (tgt := 22) hx (dc kL_some_0 11 rfl) (by decide) Iff.rfl rfl ?_ ?_
        · refine j_iinc (q := 25) (l2 := [(0, vR x.2.2.2 x0)]) hx (dc kL_some_0 14 rfl) 1 rfl (v := (1 : Int32)) (by decide) (hn 1 (by decide)) [0] rfl ⟨⟨show (0 : Nat) ≠ 1 by decide, Or.inr (vR_cat _ _)⟩, trivial⟩ rfl ?_
          refine j_goto (q := 2) hx (dc kL_some_0 15 rfl) (by decide) ?_
          exact j_back [1, 0] ((x1 + (1 : Int32)), h3) rfl rfl
        · refine j_exit ?_
          refine j_iconst (q := 21) (v := (1 : Int32)) hx (dc kL_some_0 12 rfl) (by decide) rfl ?_
          exact r_cW hx (Or.inr rfl) hR (dc kL_some_0 13 rfl)
    exact j_loop (S := (Int32 × Hp)) (lvf := fun s => [(0, vR x.2.2.2 x0), (1, .int s.1)]) (hpf := fun s => s.2) (f := (fun s : (Int32 × Hp) => mL_some_l2f x0 s.1 s.2)) (fun s => hB s.1 s.2) (x1, h)
  unfold mL_some
  refine J.ckd fun hck => ?_
  refine j_iconst (q := 1) (v := (0 : Int32)) hx (dc kL_some_0 0 rfl) (by decide) rfl ?_
  refine j_istore_n (q := 2) (i := 1) (l2 := [(0, vR x.2.2.2 x0)]) hx (dc kL_some_0 1 rfl) rfl (hn 1 (by decide)) [0] rfl ⟨⟨show (0 : Nat) ≠ 1 by decide, Or.inr (vR_cat _ _)⟩, trivial⟩ rfl ?_
  exact j_sub [1, 0] rfl (hb2 x0 (0 : Int32) h)

set_option maxHeartbeats 4000000 in
set_option maxRecDepth 100000 in
theorem sL_gap (l : Launch) (w : Wd) (x0 : Nat) (h : Hp) (u : (Nat × Hp)) (hK : mL_gap x0 h = some u) : M1 l w mi_L_gap 3 [vR w x0] h u.2 (some (vR w u.1)) := by
  refine M1.of (own := RL) (T := fun _ r => r = u) hK (by decide +kernel) rfl (by first | (simp only [lg_lenR, lg_lenI, lg_lenL, lg_len0]; decide) | decide) (fun x hx hnl hhf hl hw hret hnm hQ h0e => ⟨?_, rfl⟩)
  subst hw
  subst hl
  have hR : Rt x h u.2 (some (vR x.2.2.2 u.1)) ((some (.object "java/lang/String"))) := ⟨h0e, hhf, hret, hQ⟩
  have hn : ∀ i, i < 1 → i < x.2.2.1.1.1 := fun i hi => by rw [hnl]; exact hi
  have e0 : lv_args 0 [vR x.2.2.2 x0] = [(0, vR x.2.2.2 x0)] := by simp only [lv_argsR, lv_argsI, lv_argsL, lv_args0]
  rw [e0]
  unfold mL_gap
  refine J.ckd fun hck => ?_
  refine j_aload_n (q := 1) hx (dc kL_gap_0 0 rfl) rfl 0 rfl rfl ?_
  refine j_bipush (q := 3) (v := (9 : Int32)) hx (dc kL_gap_0 1 rfl) (by decide) rfl ?_
  refine w_cVIW (q := 6) (As := [.int (9 : Int32)]) (st := []) hx (dc kL_gap_0 2 rfl) cf15 (by decide) rfl (cI _ my_L_draw lm_L_75 (by decide)) vs_L_draw rfl (fun u hu => sL_draw _ _ _ _ _ _ hu) (fun e => ite_ne (by unfold mL_draw at e; exact e)) (Nat.zero_le _) rfl (fun v1 h2 => ?_)
  refine j_if_neS (q := 9) (tgt := 27) hx (dc kL_gap_0 3 rfl) (by decide) rfl ?_ ?_
  · refine j_ldcS (a := 4) (q := 29) hx (show (_, _, "", _) ∈ strs0 by decide +kernel) (dc kL_gap_0 12 rfl) rfl ?_
    exact r_aW hx (Or.inl ⟨_, rfl⟩) hR (dc kL_gap_0 13 rfl)
  · refine j_aload_n (q := 10) hx (dc kL_gap_0 4 rfl) rfl 0 rfl rfl ?_
    refine j_iconst (q := 11) (v := (2 : Int32)) hx (dc kL_gap_0 5 rfl) (by decide) rfl ?_
    refine w_cVIW (q := 14) (As := [.int (2 : Int32)]) (st := []) hx (dc kL_gap_0 6 rfl) cf15 (by decide) rfl (cI _ my_L_draw lm_L_75 (by decide)) vs_L_draw rfl (fun u hu => sL_draw _ _ _ _ _ _ hu) (fun e => ite_ne (by unfold mL_draw at e; exact e)) (Nat.zero_le _) rfl (fun v3 h4 => ?_)
    refine j_if_neS (q := 17) (tgt := 22) hx (dc kL_gap_0 7 rfl) (by decide) rfl ?_ ?_
    · refine j_ldcS (a := 3) (q := 24) hx (show (_, _, "\n", _) ∈ strs0 by decide +kernel) (dc kL_gap_0 10 rfl) rfl ?_
      refine j_goto (q := 29) hx (dc kL_gap_0 11 rfl) (by decide) ?_
      exact r_aW hx (Or.inl ⟨_, rfl⟩) hR (dc kL_gap_0 13 rfl)
    · refine j_ldcS (a := 2) (q := 19) hx (show (_, _, " ", _) ∈ strs0 by decide +kernel) (dc kL_gap_0 8 rfl) rfl ?_
      refine j_goto (q := 29) hx (dc kL_gap_0 9 rfl) (by decide) ?_
      exact r_aW hx (Or.inl ⟨_, rfl⟩) hR (dc kL_gap_0 13 rfl)

set_option maxHeartbeats 4000000 in
set_option maxRecDepth 100000 in
theorem sL_fact (l : Launch) (w : Wd) (x0 : Int32) (h : Hp) (u : (Nat × Hp)) (hK : mL_fact x0 h = some u) : M1 l w mi_L_fact 7 [.int x0] h u.2 (some (vR w u.1)) := by
  refine M1.of (own := RL) (T := fun _ r => r = u) hK (by decide +kernel) rfl (by first | (simp only [lg_lenR, lg_lenI, lg_lenL, lg_len0]; decide) | decide) (fun x hx hnl hhf hl hw hret hnm hQ h0e => ⟨?_, rfl⟩)
  subst hw
  subst hl
  have hR : Rt x h u.2 (some (vR x.2.2.2 u.1)) ((some (.object "java/lang/String"))) := ⟨h0e, hhf, hret, hQ⟩
  have hn : ∀ i, i < 1 → i < x.2.2.1.1.1 := fun i hi => by rw [hnl]; exact hi
  have e0 : lv_args 0 [.int x0] = [(0, .int x0)] := by simp only [lv_argsR, lv_argsI, lv_argsL, lv_args0]
  rw [e0]
  unfold mL_fact
  refine j_new (q := 3) hx (dc kL_fact_0 0 rfl) cf16 (by decide) nw_L_127 rfl (fun v2 hvv2 h1 => ?_)
  refine j_dup (q := 4) hx (dc kL_fact_0 1 rfl) (vR_cat _ _) rfl ?_
  refine w_cIVW (q := 7) (As := []) (st := [vR x.2.2.2 v2]) hx (dc kL_fact_0 2 rfl) (cI _ my_J4_init_da8c8 lm_L_129 (by decide)) is_J4_init_da8c8 rfl rfl (fun u hu => sJ4_init_da8c8 hvv2 _ _ _ _ hu) hvv2 (sum_le (sum_R sum_nil) (by decide)) rfl (fun h4 => ?_)
  refine j_ldcS (a := 4) (q := 9) hx (show (_, _, "", _) ∈ strs0 by decide +kernel) (dc kL_fact_0 3 rfl) rfl ?_
  refine w_cVRW (q := 12) (As := [vR x.2.2.2 14]) (st := []) hx (dc kL_fact_0 4 rfl) cf16 (by decide) rfl (cI _ my_J4_append_15ec4 lm_L_130 (by decide)) vs_J4_append_15ec4 rfl (fun u hu => sJ4_append_15ec4 _ _ _ _ _ _ hu) (fun e => ite_ne (by unfold mJ4_append_15ec4 at e; exact e)) (Nat.zero_le _) rfl (fun v5 h6 => ?_)
  refine j_bipush (q := 14) (v := (97 : Int32)) hx (dc kL_fact_0 5 rfl) (by decide) rfl ?_
  refine j_iload_n (q := 15) hx (dc kL_fact_0 6 rfl) rfl 0 rfl rfl ?_
  refine j_iadd (q := 16) hx (dc kL_fact_0 7 rfl) rfl ?_
  refine j_i2c (q := 17) hx (dc kL_fact_0 8 rfl) rfl ?_
  refine w_cVRW (q := 20) (As := [.int (i2cV ((97 : Int32) + x0))]) (st := []) hx (dc kL_fact_0 9 rfl) cf16 (by decide) rfl (cI _ my_J4_append_cf468 lm_L_134 (by decide)) vs_J4_append_cf468 rfl (fun u hu => sJ4_append_cf468 _ _ _ _ _ _ hu) (fun e => ite_ne (by unfold mJ4_append_cf468 at e; exact e)) (Nat.zero_le _) rfl (fun v7 h8 => ?_)
  refine w_cVRW (q := 23) (As := []) (st := []) hx (dc kL_fact_0 10 rfl) cf16 (by decide) rfl (cI _ my_J4_toString_0e30d lm_L_137 (by decide)) vs_J4_toString_0e30d rfl (fun u hu => sJ4_toString_0e30d _ _ _ _ _ hu) (fun e => ite_ne (by unfold mJ4_toString_0e30d at e; exact e)) (Nat.zero_le _) rfl (fun v9 h10 => ?_)
  exact r_aW hx (Or.inl ⟨_, rfl⟩) hR (dc kL_fact_0 11 rfl)

set_option maxHeartbeats 4000000 in
set_option maxRecDepth 100000 in
theorem sL_count (l : Launch) (w : Wd) (x0 : Int32) (h : Hp) (u : (Nat × Hp)) (hK : mL_count x0 h = some u) : M1 l w mi_L_count 7 [.int x0] h u.2 (some (vR w u.1)) := by
  refine M1.of (own := RL) (T := fun _ r => r = u) hK (by decide +kernel) rfl (by first | (simp only [lg_lenR, lg_lenI, lg_lenL, lg_len0]; decide) | decide) (fun x hx hnl hhf hl hw hret hnm hQ h0e => ⟨?_, rfl⟩)
  subst hw
  subst hl
  have hR : Rt x h u.2 (some (vR x.2.2.2 u.1)) ((some (.object "java/lang/String"))) := ⟨h0e, hhf, hret, hQ⟩
  have hn : ∀ i, i < 1 → i < x.2.2.1.1.1 := fun i hi => by rw [hnl]; exact hi
  have e0 : lv_args 0 [.int x0] = [(0, .int x0)] := by simp only [lv_argsR, lv_argsI, lv_argsL, lv_args0]
  rw [e0]
  unfold mL_count
  refine j_new (q := 3) hx (dc kL_count_0 0 rfl) cf16 (by decide) nw_L_127 rfl (fun v2 hvv2 h1 => ?_)
  refine j_dup (q := 4) hx (dc kL_count_0 1 rfl) (vR_cat _ _) rfl ?_
  refine w_cIVW (q := 7) (As := []) (st := [vR x.2.2.2 v2]) hx (dc kL_count_0 2 rfl) (cI _ my_J4_init_da8c8 lm_L_129 (by decide)) is_J4_init_da8c8 rfl rfl (fun u hu => sJ4_init_da8c8 hvv2 _ _ _ _ hu) hvv2 (sum_le (sum_R sum_nil) (by decide)) rfl (fun h4 => ?_)
  refine j_ldcS (a := 16) (q := 9) hx (show (_, _, "c", _) ∈ strs0 by decide +kernel) (dc kL_count_0 3 rfl) rfl ?_
  refine w_cVRW (q := 12) (As := [vR x.2.2.2 26]) (st := []) hx (dc kL_count_0 4 rfl) cf16 (by decide) rfl (cI _ my_J4_append_15ec4 lm_L_130 (by decide)) vs_J4_append_15ec4 rfl (fun u hu => sJ4_append_15ec4 _ _ _ _ _ _ hu) (fun e => ite_ne (by unfold mJ4_append_15ec4 at e; exact e)) (Nat.zero_le _) rfl (fun v5 h6 => ?_)
  refine j_bipush (q := 14) (v := (97 : Int32)) hx (dc kL_count_0 5 rfl) (by decide) rfl ?_
  refine j_iload_n (q := 15) hx (dc kL_count_0 6 rfl) rfl 0 rfl rfl ?_
  refine j_iadd (q := 16) hx (dc kL_count_0 7 rfl) rfl ?_
  refine j_i2c (q := 17) hx (dc kL_count_0 8 rfl) rfl ?_
  refine w_cVRW (q := 20) (As := [.int (i2cV ((97 : Int32) + x0))]) (st := []) hx (dc kL_count_0 9 rfl) cf16 (by decide) rfl (cI _ my_J4_append_cf468 lm_L_134 (by decide)) vs_J4_append_cf468 rfl (fun u hu => sJ4_append_cf468 _ _ _ _ _ _ hu) (fun e => ite_ne (by unfold mJ4_append_cf468 at e; exact e)) (Nat.zero_le _) rfl (fun v7 h8 => ?_)
  refine w_cVRW (q := 23) (As := []) (st := []) hx (dc kL_count_0 10 rfl) cf16 (by decide) rfl (cI _ my_J4_toString_0e30d lm_L_137 (by decide)) vs_J4_toString_0e30d rfl (fun u hu => sJ4_toString_0e30d _ _ _ _ _ hu) (fun e => ite_ne (by unfold mJ4_toString_0e30d at e; exact e)) (Nat.zero_le _) rfl (fun v9 h10 => ?_)
  exact r_aW hx (Or.inl ⟨_, rfl⟩) hR (dc kL_count_0 11 rfl)

set_option maxHeartbeats 4000000 in
set_option maxRecDepth 100000 in
theorem sL_fits (l : Launch) (w : Wd) (x0 : Nat) (x1 : Nat) (x2 : Nat) (h : Hp) (u : (Int32 × Hp)) (hK : mL_fits x0 x1 x2 h = some u) : M1 l w mi_L_fits 6 [vR w x0, vR w x1, vR w x2] h u.2 (some (.int u.1)) := by
  refine M1.of (own := RL) (T := fun _ r => r = u) hK (by decide +kernel) rfl (by first | (simp only [lg_lenR, lg_lenI, lg_lenL, lg_len0]; decide) | decide) (fun x hx hnl hhf hl hw hret hnm hQ h0e => ⟨?_, rfl⟩)
  subst hw
  subst hl
  have hR : Rt x h u.2 (some (.int u.1)) ((some .boolean)) := ⟨h0e, hhf, hret, hQ⟩
  have hn : ∀ i, i < 3 → i < x.2.2.1.1.1 := fun i hi => by rw [hnl]; exact hi
  have e0 : lv_args 0 [vR x.2.2.2 x0, vR x.2.2.2 x1, vR x.2.2.2 x2] = [(0, vR x.2.2.2 x0), (1, vR x.2.2.2 x1), (2, vR x.2.2.2 x2)] := by simp only [lv_argsR, lv_argsI, lv_argsL, lv_args0]
  rw [e0]
  unfold mL_fits
  refine J.ckd fun hck => ?_
  refine j_aload_n (q := 1) hx (dc kL_fits_0 0 rfl) rfl 1 rfl rfl ?_
  refine w_cVIR (q := 4) (As := []) (st := []) hx (dc kL_fits_0 1 rfl) cf16 (by decide) rfl (cI _ my_J4_length_8abf5 lm_L_143 (by decide)) vs_J4_length_8abf5 rfl (fun u hu => sJ4_length_8abf5 _ _ _ _ _ hu) (fun e => ite_ne (by unfold mJ4_length_8abf5 at e; exact e)) (Nat.zero_le _) rfl (fun v1 => ?_)
  refine j_aload_n (q := 5) hx (dc kL_fits_0 2 rfl) rfl 2 rfl rfl ?_
  refine w_cTIR (q := 8) (As := []) (st := [.int v1]) hx (dc kL_fits_0 3 rfl) (cI _ my_J0_length_8abf5 lm_L_61 (by decide)) vs_J0_length_8abf5 rfl (fun u hu => sJ0_length_8abf5 _ _ _ _ _ hu) rfl (fun e => ite_ne (by unfold mJ0_length_8abf5 at e; exact e)) (sum_le (sum_I sum_nil) (by decide)) rfl (fun v3 => ?_)
  refine j_iadd (q := 9) hx (dc kL_fits_0 4 rfl) rfl ?_
  refine j_sipush (q := 12) (v := (470 : Int32)) hx (dc kL_fits_0 5 rfl) (by decide) rfl ?_
  refine j_icmp_leS (q := 15) (tgt := 17) hx (dc kL_fits_0 6 rfl) (by decide) rfl ?_ ?_
  · refine j_aload_n (q := 18) hx (dc kL_fits_0 9 rfl) rfl 1 rfl rfl ?_
    refine j_aload_n (q := 19) hx (dc kL_fits_0 10 rfl) rfl 2 rfl rfl ?_
    refine w_cVRW (q := 22) (As := [vR x.2.2.2 x2]) (st := []) hx (dc kL_fits_0 11 rfl) cf16 (by decide) rfl (cI _ my_J4_append_15ec4 lm_L_130 (by decide)) vs_J4_append_15ec4 rfl (fun u hu => sJ4_append_15ec4 _ _ _ _ _ _ hu) (fun e => ite_ne (by unfold mJ4_append_15ec4 at e; exact e)) (Nat.zero_le _) rfl (fun v5 h6 => ?_)
    refine j_bipush (q := 24) (v := (59 : Int32)) hx (dc kL_fits_0 12 rfl) (by decide) rfl ?_
    refine w_cVRW (q := 27) (As := [.int (59 : Int32)]) (st := []) hx (dc kL_fits_0 13 rfl) cf16 (by decide) rfl (cI _ my_J4_append_cf468 lm_L_134 (by decide)) vs_J4_append_cf468 rfl (fun u hu => sJ4_append_cf468 _ _ _ _ _ _ hu) (fun e => ite_ne (by unfold mJ4_append_cf468 at e; exact e)) (Nat.zero_le _) rfl (fun v7 h8 => ?_)
    refine j_aload_n (q := 28) hx (dc kL_fits_0 14 rfl) rfl 0 rfl rfl ?_
    refine w_cVRW (q := 31) (As := []) (st := [vR x.2.2.2 v7]) hx (dc kL_fits_0 15 rfl) cf15 (by decide) rfl (cI _ my_L_gap lm_L_144 (by decide)) vs_L_gap rfl (fun u hu => sL_gap _ _ _ _ _ hu) (fun e => ite_ne (by unfold mL_gap at e; exact e)) (sum_le (sum_R sum_nil) (by decide)) rfl (fun v9 h10 => ?_)
    refine w_cVRW (q := 34) (As := [vR x.2.2.2 v9]) (st := []) hx (dc kL_fits_0 16 rfl) cf16 (by decide) rfl (cI _ my_J4_append_15ec4 lm_L_130 (by decide)) vs_J4_append_15ec4 rfl (fun u hu => sJ4_append_15ec4 _ _ _ _ _ _ hu) (fun e => ite_ne (by unfold mJ4_append_15ec4 at e; exact e)) (Nat.zero_le _) rfl (fun v11 h12 => ?_)
    refine j_pop (q := 35) hx (dc kL_fits_0 17 rfl) (vR_cat _ _) rfl ?_
    refine j_aload_n (q := 36) hx (dc kL_fits_0 18 rfl) rfl 0 rfl rfl ?_
    refine j_dup (q := 37) hx (dc kL_fits_0 19 rfl) (vR_cat _ _) rfl ?_
    refine w_gI (q := 40) hx (dc kL_fits_0 20 rfl) ff_L_5 lk_L_147 rfl (fun v13 => ?_)
    refine j_iconst (q := 41) (v := (1 : Int32)) hx (dc kL_fits_0 21 rfl) (by decide) rfl ?_
    refine j_iadd (q := 42) hx (dc kL_fits_0 22 rfl) rfl ?_
    refine w_sI (q := 45) hx (dc kL_fits_0 23 rfl) ff_L_5 rfl lk_L_147 (Or.inl rfl) rfl (fun h14 => ?_)
    refine j_iconst (q := 46) (v := (1 : Int32)) hx (dc kL_fits_0 24 rfl) (by decide) rfl ?_
    exact r_cW hx (Or.inr rfl) hR (dc kL_fits_0 25 rfl)
  · refine j_iconst (q := 16) (v := (0 : Int32)) hx (dc kL_fits_0 7 rfl) (by decide) rfl ?_
    exact r_cW hx (Or.inl rfl) hR (dc kL_fits_0 8 rfl)

set_option maxHeartbeats 4000000 in
set_option maxRecDepth 100000 in
theorem sL_told (l : Launch) (w : Wd) (x0 : Nat) (x1 : Int32) (x2 : Int32) (h : Hp) (u : (Int32 × Hp)) (hK : mL_told x0 x1 x2 h = some u) : M1 l w mi_L_told 50 [vR w x0, .int x1, .int x2] h u.2 (some (.int u.1)) := by
  refine M1.of (own := RL) (T := fun _ r => r = u) hK (by decide +kernel) rfl (by first | (simp only [lg_lenR, lg_lenI, lg_lenL, lg_len0]; decide) | decide) (fun x hx hnl hhf hl hw hret hnm hQ h0e => ⟨?_, rfl⟩)
  subst hw
  subst hl
  have hR : Rt x h u.2 (some (.int u.1)) ((some .boolean)) := ⟨h0e, hhf, hret, hQ⟩
  have hn : ∀ i, i < 14 → i < x.2.2.1.1.1 := fun i hi => by rw [hnl]; exact hi
  have e0 : lv_args 0 [vR x.2.2.2 x0, .int x1, .int x2] = [(0, vR x.2.2.2 x0), (1, .int x1), (2, .int x2)] := by simp only [lv_argsR, lv_argsI, lv_argsL, lv_args0]
  rw [e0]
  have hb947 : ∀ (x0 : Nat) (x3 : Nat) (h : Hp), J x 947 [(0, vR x.2.2.2 x0), (3, vR x.2.2.2 x3)] [] h (mL_told_b947 x0 x3 h) (fun r => r = u) := by
    intro x0 x3 h
    unfold mL_told_b947
    refine j_aload_n (q := 948) hx (dc kL_told_7 5 rfl) rfl 0 rfl rfl ?_
    refine j_aload_n (q := 949) hx (dc kL_told_7 6 rfl) rfl 1 rfl rfl ?_
    refine w_cVRW (q := 952) (As := []) (st := [vR x.2.2.2 x0]) hx (dc kL_told_7 7 rfl) cf16 (by decide) rfl (cI _ my_J4_toString_0e30d lm_L_137 (by decide)) vs_J4_toString_0e30d rfl (fun u hu => sJ4_toString_0e30d _ _ _ _ _ hu) (fun e => ite_ne (by unfold mJ4_toString_0e30d at e; exact e)) (sum_le (sum_R sum_nil) (by decide)) rfl (fun v29 h30 => ?_)
    refine w_cVVW (q := 955) (As := [vR x.2.2.2 v29]) (st := []) hx (dc kL_told_7 8 rfl) cf15 (by decide) rfl (cI _ my_L_text lm_L_242 (by decide)) vs_L_text rfl (fun u hu => sL_text _ _ _ _ _ _ hu) (fun e => ite_ne (by unfold mL_text at e; exact e)) (Nat.zero_le _) rfl (fun h32 => ?_)
    refine j_aload_n (q := 956) hx (dc kL_told_7 9 rfl) rfl 0 rfl rfl ?_
    refine w_gR (q := 959) hx (dc kL_told_7 10 rfl) ff_L_0 lk_L_10 rfl (fun v33 => ?_)
    refine w_cVIW (q := 962) (As := []) (st := []) hx (dc kL_told_7 11 rfl) cf11 (by decide) rfl (cI _ my_X11_suit lm_L_245 (by decide)) vs_X11_suit rfl (fun u hu => sX11_suit _ _ _ _ _ hu) (fun e => ite_ne (by unfold mX11_suit at e; exact e)) (Nat.zero_le _) rfl (fun v34 h35 => ?_)
    refine j_aload_n (q := 963) hx (dc kL_told_7 12 rfl) rfl 0 rfl rfl ?_
    refine w_gI (q := 966) hx (dc kL_told_7 13 rfl) ff_L_5 lk_L_147 rfl (fun v36 => ?_)
    refine j_icmp_neS (q := 969) (tgt := 1008) hx (dc kL_told_7 14 rfl) (by decide) rfl ?_ ?_
    · refine j_iconst (q := 1009) (v := (0 : Int32)) hx (dc kL_told_7 33 rfl) (by decide) rfl ?_
      exact r_cW hx (Or.inl rfl) hR (dc kL_told_7 34 rfl)
    · refine j_aload_n (q := 970) hx (dc kL_told_7 15 rfl) rfl 0 rfl rfl ?_
      refine w_gR (q := 973) hx (dc kL_told_7 16 rfl) ff_L_0 lk_L_10 rfl (fun v37 => ?_)
      refine j_iconst (q := 974) (v := (0 : Int32)) hx (dc kL_told_7 17 rfl) (by decide) rfl ?_
      refine w_cVIR (q := 977) (As := [.int (0 : Int32)]) (st := []) hx (dc kL_told_7 18 rfl) cf11 (by decide) rfl (cI _ my_X11_fault lm_L_248 (by decide)) vs_X11_fault rfl (fun u hu => sX11_fault _ _ _ _ _ _ hu) (fun e => ite_ne (by unfold mX11_fault at e; exact e)) (Nat.zero_le _) rfl (fun v38 => ?_)
      refine j_if_neS (q := 980) (tgt := 1008) hx (dc kL_told_7 19 rfl) (by decide) rfl ?_ ?_
      · refine j_iconst (q := 1009) (v := (0 : Int32)) hx (dc kL_told_7 33 rfl) (by decide) rfl ?_
        exact r_cW hx (Or.inl rfl) hR (dc kL_told_7 34 rfl)
      · refine j_aload_n (q := 981) hx (dc kL_told_7 20 rfl) rfl 0 rfl rfl ?_
        refine w_gR (q := 984) hx (dc kL_told_7 21 rfl) ff_L_0 lk_L_10 rfl (fun v40 => ?_)
        refine j_iconst (q := 985) (v := (1 : Int32)) hx (dc kL_told_7 22 rfl) (by decide) rfl ?_
        refine w_cVIR (q := 988) (As := [.int (1 : Int32)]) (st := []) hx (dc kL_told_7 23 rfl) cf11 (by decide) rfl (cI _ my_X11_fault lm_L_248 (by decide)) vs_X11_fault rfl (fun u hu => sX11_fault _ _ _ _ _ _ hu) (fun e => ite_ne (by unfold mX11_fault at e; exact e)) (Nat.zero_le _) rfl (fun v41 => ?_)
        refine j_iconst (q := 989) (v := (-1 : Int32)) hx (dc kL_told_7 24 rfl) (by decide) rfl ?_
        refine j_icmp_neS (q := 992) (tgt := 1008) hx (dc kL_told_7 25 rfl) (by decide) rfl ?_ ?_
        · refine j_iconst (q := 1009) (v := (0 : Int32)) hx (dc kL_told_7 33 rfl) (by decide) rfl ?_
          exact r_cW hx (Or.inl rfl) hR (dc kL_told_7 34 rfl)
        · refine j_aload_n (q := 993) hx (dc kL_told_7 26 rfl) rfl 0 rfl rfl ?_
          refine w_gR (q := 996) hx (dc kL_told_7 27 rfl) ff_L_0 lk_L_10 rfl (fun v43 => ?_)
          refine j_bipush (q := 998) (v := (8 : Int32)) hx (dc kL_told_7 28 rfl) (by decide) rfl ?_
          refine w_cVIW (q := 1001) (As := [.int (8 : Int32)]) (st := []) hx (dc kL_told_7 29 rfl) cf11 (by decide) rfl (cI _ my_X11_count lm_L_251 (by decide)) vs_X11_count rfl (fun u hu => sX11_count _ _ _ _ _ _ hu) (fun e => ite_ne (by unfold mX11_count at e; exact e)) (Nat.zero_le _) rfl (fun v44 h45 => ?_)
          refine j_if_neS (q := 1004) (tgt := 1008) hx (dc kL_told_7 30 rfl) (by decide) rfl ?_ ?_
          · refine j_iconst (q := 1009) (v := (0 : Int32)) hx (dc kL_told_7 33 rfl) (by decide) rfl ?_
            exact r_cW hx (Or.inl rfl) hR (dc kL_told_7 34 rfl)
          · refine j_iconst (q := 1005) (v := (1 : Int32)) hx (dc kL_told_7 31 rfl) (by decide) rfl ?_
            refine j_goto (q := 1009) hx (dc kL_told_7 32 rfl) (by decide) ?_
            exact r_cW hx (Or.inr rfl) hR (dc kL_told_7 34 rfl)
  have hb390 : ∀ (x0 : Nat) (x2 : Int32) (x3 : Nat) (x4 : Int32) (h : Hp), J x 390 [(0, vR x.2.2.2 x0), (2, .int x2), (3, vR x.2.2.2 x3), (4, .int x4)] [] h (mL_told_l390 x0 x2 x3 x4 h) (fun r => r = u) := by
    intro x0 x2 x3 x4 h
    have hB : ∀ (x4 : Int32) (h : Hp), J x 390 [(0, vR x.2.2.2 x0), (2, .int x2), (3, vR x.2.2.2 x3), (4, .int x4)] [] h (mL_told_l390f x0 x2 x3 x4 h) (TLo (S := (Int32 × Hp)) x 390 (fun s => [(0, vR x.2.2.2 x0), (2, .int x2), (3, vR x.2.2.2 x3), (4, .int s.1)]) [] (fun s => s.2) (fun r => r = u)) := by
      intro x4 h
      have hb941 : ∀ (x0 : Nat) (x2 : Int32) (x3 : Nat) (x4 : Int32) (h : Hp), J x 941 [(0, vR x.2.2.2 x0), (2, .int x2), (3, vR x.2.2.2 x3), (4, .int x4)] [] h (mL_told_b941 x0 x2 x3 x4 h) (TLo (S := (Int32 × Hp)) x 390 (fun s => [(0, vR x.2.2.2 x0), (2, .int x2), (3, vR x.2.2.2 x3), (4, .int s.1)]) [] (fun s => s.2) (fun r => r = u)) := by
        intro x0 x2 x3 x4 h
        unfold mL_told_b941
        refine j_iinc (q := 944) (l2 := [(0, vR x.2.2.2 x0), (2, .int x2), (3, vR x.2.2.2 x3)]) hx (dc kL_told_7 3 rfl) 3 rfl (v := (1 : Int32)) (by decide) (hn 4 (by decide)) [0, 1, 2] rfl ⟨⟨show (0 : Nat) ≠ 4 by decide, Or.inl (show (0 : Nat) + 1 ≠ 4 by decide)⟩, ⟨⟨show (2 : Nat) ≠ 4 by decide, Or.inl (show (2 : Nat) + 1 ≠ 4 by decide)⟩, ⟨⟨show (3 : Nat) ≠ 4 by decide, Or.inr (vR_cat _ _)⟩, trivial⟩⟩⟩ rfl ?_
        refine j_goto (q := 390) hx (dc kL_told_7 4 rfl) (by decide) ?_
        exact j_back [1, 2, 3, 0] ((x4 + (1 : Int32)), h) rfl rfl
      have hb717 : ∀ (x0 : Nat) (x2 : Int32) (x3 : Nat) (x4 : Int32) (x10 : Nat) (x11 : Int32) (h : Hp), J x 717 [(0, vR x.2.2.2 x0), (2, .int x2), (3, vR x.2.2.2 x3), (4, .int x4), (10, vR x.2.2.2 x10), (11, .int x11)] [] h (mL_told_l717 x0 x2 x3 x4 x10 x11 h) (TLo (S := (Int32 × Hp)) x 390 (fun s => [(0, vR x.2.2.2 x0), (2, .int x2), (3, vR x.2.2.2 x3), (4, .int s.1)]) [] (fun s => s.2) (fun r => r = u)) := by
        intro x0 x2 x3 x4 x10 x11 h
        have hB : ∀ (x11 : Int32) (h : Hp), J x 717 [(0, vR x.2.2.2 x0), (2, .int x2), (3, vR x.2.2.2 x3), (4, .int x4), (10, vR x.2.2.2 x10), (11, .int x11)] [] h (mL_told_l717f x0 x2 x3 x4 x10 x11 h) (TLo (S := (Int32 × Hp)) x 717 (fun s => [(0, vR x.2.2.2 x0), (2, .int x2), (3, vR x.2.2.2 x3), (4, .int x4), (10, vR x.2.2.2 x10), (11, .int s.1)]) [] (fun s => s.2) (TLo (S := (Int32 × Hp)) x 390 (fun s => [(0, vR x.2.2.2 x0), (2, .int x2), (3, vR x.2.2.2 x3), (4, .int s.1)]) [] (fun s => s.2) (fun r => r = u))) := by
          intro x11 h
          have hb848 : ∀ (x0 : Nat) (x2 : Int32) (x3 : Nat) (x4 : Int32) (x10 : Nat) (x11 : Int32) (h : Hp), J x 848 [(0, vR x.2.2.2 x0), (2, .int x2), (3, vR x.2.2.2 x3), (4, .int x4), (10, vR x.2.2.2 x10), (11, .int x11)] [] h (mL_told_b848 x0 x2 x3 x4 x10 x11 h) (TLo (S := (Int32 × Hp)) x 717 (fun s => [(0, vR x.2.2.2 x0), (2, .int x2), (3, vR x.2.2.2 x3), (4, .int x4), (10, vR x.2.2.2 x10), (11, .int s.1)]) [] (fun s => s.2) (TLo (S := (Int32 × Hp)) x 390 (fun s => [(0, vR x.2.2.2 x0), (2, .int x2), (3, vR x.2.2.2 x3), (4, .int s.1)]) [] (fun s => s.2) (fun r => r = u))) := by
            intro x0 x2 x3 x4 x10 x11 h
            unfold mL_told_b848
            refine j_iinc (q := 851) (l2 := [(0, vR x.2.2.2 x0), (2, .int x2), (3, vR x.2.2.2 x3), (4, .int x4), (10, vR x.2.2.2 x10)]) hx (dc kL_told_6 23 rfl) 5 rfl (v := (-1 : Int32)) (by decide) (hn 11 (by decide)) [0, 1, 2, 3, 4] rfl ⟨⟨show (0 : Nat) ≠ 11 by decide, Or.inl (show (0 : Nat) + 1 ≠ 11 by decide)⟩, ⟨⟨show (2 : Nat) ≠ 11 by decide, Or.inl (show (2 : Nat) + 1 ≠ 11 by decide)⟩, ⟨⟨show (3 : Nat) ≠ 11 by decide, Or.inl (show (3 : Nat) + 1 ≠ 11 by decide)⟩, ⟨⟨show (4 : Nat) ≠ 11 by decide, Or.inl (show (4 : Nat) + 1 ≠ 11 by decide)⟩, ⟨⟨show (10 : Nat) ≠ 11 by decide, Or.inr (vR_cat _ _)⟩, trivial⟩⟩⟩⟩⟩ rfl ?_
            refine j_goto (q := 717) hx (dc kL_told_6 24 rfl) (by decide) ?_
            exact j_back [1, 2, 3, 4, 5, 0] ((x11 + (-1 : Int32)), h) rfl rfl
          have hb796 : ∀ (x0 : Nat) (x2 : Int32) (x3 : Nat) (x4 : Int32) (x10 : Nat) (x11 : Int32) (x12 : Int32) (x13 : Int32) (t0 : Nat) (t1 : Nat) (t2 : Nat) (t3 : Nat) (h : Hp), J x 796 [(0, vR x.2.2.2 x0), (2, .int x2), (3, vR x.2.2.2 x3), (4, .int x4), (10, vR x.2.2.2 x10), (11, .int x11), (12, .int x12), (13, .int x13)] [vR x.2.2.2 t3, vR x.2.2.2 t2, vR x.2.2.2 t1, vR x.2.2.2 t0] h (mL_told_b796 x0 x2 x3 x4 x10 x11 x12 x13 t0 t1 t2 t3 h) (TLo (S := (Int32 × Hp)) x 717 (fun s => [(0, vR x.2.2.2 x0), (2, .int x2), (3, vR x.2.2.2 x3), (4, .int x4), (10, vR x.2.2.2 x10), (11, .int s.1)]) [] (fun s => s.2) (TLo (S := (Int32 × Hp)) x 390 (fun s => [(0, vR x.2.2.2 x0), (2, .int x2), (3, vR x.2.2.2 x3), (4, .int s.1)]) [] (fun s => s.2) (fun r => r = u))) := by
            intro x0 x2 x3 x4 x10 x11 x12 x13 t0 t1 t2 t3 h
            unfold mL_told_b796
            refine w_cVRW (q := 799) (As := [vR x.2.2.2 t3]) (st := [vR x.2.2.2 t1, vR x.2.2.2 t0]) hx (dc kL_told_5 63 rfl) cf16 (by decide) rfl (cI _ my_J4_append_15ec4 lm_L_130 (by decide)) vs_J4_append_15ec4 rfl (fun u hu => sJ4_append_15ec4 _ _ _ _ _ _ hu) (fun e => ite_ne (by unfold mJ4_append_15ec4 at e; exact e)) (sum_le (sum_R (sum_R sum_nil)) (by decide)) rfl (fun v150 h151 => ?_)
            refine j_iload (q := 801) hx (dc kL_told_6 0 rfl) 6 rfl rfl ?_
            refine w_cSRW (q := 804) (As := [.int x12]) (st := [vR x.2.2.2 v150, vR x.2.2.2 t1, vR x.2.2.2 t0]) hx (dc kL_told_6 1 rfl) (cI _ my_L_fact lm_L_165 (by decide)) st_L_fact rfl (fun u hu => sL_fact _ _ _ _ _ hu) (sum_le (sum_R (sum_R (sum_R sum_nil))) (by decide)) rfl (fun v152 h153 => ?_)
            refine w_cVRW (q := 807) (As := [vR x.2.2.2 v152]) (st := [vR x.2.2.2 t1, vR x.2.2.2 t0]) hx (dc kL_told_6 2 rfl) cf16 (by decide) rfl (cI _ my_J4_append_15ec4 lm_L_130 (by decide)) vs_J4_append_15ec4 rfl (fun u hu => sJ4_append_15ec4 _ _ _ _ _ _ hu) (fun e => ite_ne (by unfold mJ4_append_15ec4 at e; exact e)) (sum_le (sum_R (sum_R sum_nil)) (by decide)) rfl (fun v154 h155 => ?_)
            refine w_cVRW (q := 810) (As := []) (st := [vR x.2.2.2 t1, vR x.2.2.2 t0]) hx (dc kL_told_6 3 rfl) cf16 (by decide) rfl (cI _ my_J4_toString_0e30d lm_L_137 (by decide)) vs_J4_toString_0e30d rfl (fun u hu => sJ4_toString_0e30d _ _ _ _ _ hu) (fun e => ite_ne (by unfold mJ4_toString_0e30d at e; exact e)) (sum_le (sum_R (sum_R sum_nil)) (by decide)) rfl (fun v156 h157 => ?_)
            refine w_cVIW (q := 813) (As := [vR x.2.2.2 t1, vR x.2.2.2 v156]) (st := []) hx (dc kL_told_6 4 rfl) cf15 (by decide) rfl (cI _ my_L_fits lm_L_172 (by decide)) vs_L_fits rfl (fun u hu => sL_fits _ _ _ _ _ _ _ hu) (fun e => ite_ne (by unfold mL_fits at e; exact e)) (Nat.zero_le _) rfl (fun v158 h159 => ?_)
            refine j_if_neS (q := 816) (tgt := 819) hx (dc kL_told_6 5 rfl) (by decide) rfl ?_ ?_
            · refine j_aload (q := 821) hx (dc kL_told_6 7 rfl) 4 rfl rfl ?_
              refine j_dup (q := 822) hx (dc kL_told_6 8 rfl) (vR_cat _ _) rfl ?_
              refine w_gI (q := 825) hx (dc kL_told_6 9 rfl) ff_X12_5 lk_L_230 rfl (fun v160 => ?_)
              refine j_iconst (q := 826) (v := (1 : Int32)) hx (dc kL_told_6 10 rfl) (by decide) rfl ?_
              refine j_iload (q := 828) hx (dc kL_told_6 11 rfl) 6 rfl rfl ?_
              refine j_ishl (q := 829) hx (dc kL_told_6 12 rfl) rfl ?_
              refine j_ior (q := 830) hx (dc kL_told_6 13 rfl) rfl ?_
              refine w_sI (q := 833) hx (dc kL_told_6 14 rfl) ff_X12_5 rfl lk_L_230 (Or.inl rfl) rfl (fun h161 => ?_)
              refine j_aload (q := 835) hx (dc kL_told_6 15 rfl) 4 rfl rfl ?_
              refine j_dup (q := 836) hx (dc kL_told_6 16 rfl) (vR_cat _ _) rfl ?_
              refine w_gI (q := 839) hx (dc kL_told_6 17 rfl) ff_X12_6 lk_L_237 rfl (fun v162 => ?_)
              refine j_iload (q := 841) hx (dc kL_told_6 18 rfl) 7 rfl rfl ?_
              refine j_iload (q := 843) hx (dc kL_told_6 19 rfl) 6 rfl rfl ?_
              refine j_ishl (q := 844) hx (dc kL_told_6 20 rfl) rfl ?_
              refine j_ior (q := 845) hx (dc kL_told_6 21 rfl) rfl ?_
              refine w_sI (q := 848) hx (dc kL_told_6 22 rfl) ff_X12_6 rfl lk_L_237 (Or.inl rfl) rfl (fun h163 => ?_)
              exact j_sub [0, 1, 2, 3, 4, 5] rfl (hb848 x0 x2 x3 x4 x10 x11 h163)
            · refine j_goto (q := 848) hx (dc kL_told_6 6 rfl) (by decide) ?_
              exact j_sub [0, 1, 2, 3, 4, 5] rfl (hb848 x0 x2 x3 x4 x10 x11 h159)
          have hb745 : ∀ (x0 : Nat) (x2 : Int32) (x3 : Nat) (x4 : Int32) (x10 : Nat) (x11 : Int32) (x12 : Int32) (t0 : Int32) (h : Hp), J x 745 [(0, vR x.2.2.2 x0), (2, .int x2), (3, vR x.2.2.2 x3), (4, .int x4), (10, vR x.2.2.2 x10), (11, .int x11), (12, .int x12)] [.int t0] h (mL_told_b745 x0 x2 x3 x4 x10 x11 x12 t0 h) (TLo (S := (Int32 × Hp)) x 717 (fun s => [(0, vR x.2.2.2 x0), (2, .int x2), (3, vR x.2.2.2 x3), (4, .int x4), (10, vR x.2.2.2 x10), (11, .int s.1)]) [] (fun s => s.2) (TLo (S := (Int32 × Hp)) x 390 (fun s => [(0, vR x.2.2.2 x0), (2, .int x2), (3, vR x.2.2.2 x3), (4, .int s.1)]) [] (fun s => s.2) (fun r => r = u))) := by
            intro x0 x2 x3 x4 x10 x11 x12 t0 h
            unfold mL_told_b745
            refine j_istore (q := 747) (i := 13) (l2 := [(0, vR x.2.2.2 x0), (2, .int x2), (3, vR x.2.2.2 x3), (4, .int x4), (10, vR x.2.2.2 x10), (11, .int x11), (12, .int x12)]) hx (dc kL_told_5 38 rfl) (hn 13 (by decide)) [0, 1, 2, 3, 4, 5, 6] rfl ⟨⟨show (0 : Nat) ≠ 13 by decide, Or.inl (show (0 : Nat) + 1 ≠ 13 by decide)⟩, ⟨⟨show (2 : Nat) ≠ 13 by decide, Or.inl (show (2 : Nat) + 1 ≠ 13 by decide)⟩, ⟨⟨show (3 : Nat) ≠ 13 by decide, Or.inl (show (3 : Nat) + 1 ≠ 13 by decide)⟩, ⟨⟨show (4 : Nat) ≠ 13 by decide, Or.inl (show (4 : Nat) + 1 ≠ 13 by decide)⟩, ⟨⟨show (10 : Nat) ≠ 13 by decide, Or.inl (show (10 : Nat) + 1 ≠ 13 by decide)⟩, ⟨⟨show (11 : Nat) ≠ 13 by decide, Or.inl (show (11 : Nat) + 1 ≠ 13 by decide)⟩, ⟨⟨show (12 : Nat) ≠ 13 by decide, Or.inr rfl⟩, trivial⟩⟩⟩⟩⟩⟩⟩ rfl ?_
            refine j_aload (q := 749) hx (dc kL_told_5 39 rfl) 5 rfl rfl ?_
            refine w_gI (q := 752) hx (dc kL_told_5 40 rfl) ff_X12_5 lk_L_230 rfl (fun v139 => ?_)
            refine j_iload (q := 754) hx (dc kL_told_5 41 rfl) 7 rfl rfl ?_
            refine j_ishr (q := 755) hx (dc kL_told_5 42 rfl) rfl ?_
            refine j_iconst (q := 756) (v := (1 : Int32)) hx (dc kL_told_5 43 rfl) (by decide) rfl ?_
            refine j_iand (q := 757) hx (dc kL_told_5 44 rfl) rfl ?_
            refine j_iconst (q := 758) (v := (1 : Int32)) hx (dc kL_told_5 45 rfl) (by decide) rfl ?_
            refine j_icmp_eq (q := 761) (tgt := 848) hx (dc kL_told_5 46 rfl) (by decide) Iff.rfl rfl ?_ ?_
            · exact j_sub [1, 2, 3, 4, 5, 6] rfl (hb848 x0 x2 x3 x4 x10 x11 h)
            · refine j_aload_n (q := 762) hx (dc kL_told_5 47 rfl) rfl 1 rfl rfl ?_
              refine j_aload_n (q := 763) hx (dc kL_told_5 48 rfl) rfl 3 rfl rfl ?_
              refine j_new (q := 766) hx (dc kL_told_5 49 rfl) cf16 (by decide) nw_L_127 rfl (fun v141 hvv141 h140 => ?_)
              refine j_dup (q := 767) hx (dc kL_told_5 50 rfl) (vR_cat _ _) rfl ?_
              refine w_cIVW (q := 770) (As := []) (st := [vR x.2.2.2 v141, vR x.2.2.2 x3, vR x.2.2.2 x0]) hx (dc kL_told_5 51 rfl) (cI _ my_J4_init_da8c8 lm_L_129 (by decide)) is_J4_init_da8c8 rfl rfl (fun u hu => sJ4_init_da8c8 hvv141 _ _ _ _ hu) hvv141 (sum_le (sum_R (sum_R (sum_R sum_nil))) (by decide)) rfl (fun h143 => ?_)
              refine j_ldcS (a := 21) (q := 772) hx (show (_, _, "says ", _) ∈ strs0 by decide +kernel) (dc kL_told_5 52 rfl) rfl ?_
              refine w_cVRW (q := 775) (As := [vR x.2.2.2 31]) (st := [vR x.2.2.2 x3, vR x.2.2.2 x0]) hx (dc kL_told_5 53 rfl) cf16 (by decide) rfl (cI _ my_J4_append_15ec4 lm_L_130 (by decide)) vs_J4_append_15ec4 rfl (fun u hu => sJ4_append_15ec4 _ _ _ _ _ _ hu) (fun e => ite_ne (by unfold mJ4_append_15ec4 at e; exact e)) (sum_le (sum_R (sum_R sum_nil)) (by decide)) rfl (fun v144 h145 => ?_)
              refine j_iload (q := 777) hx (dc kL_told_5 54 rfl) 4 rfl rfl ?_
              refine w_cSRW (q := 780) (As := [.int x4]) (st := [vR x.2.2.2 v144, vR x.2.2.2 x3, vR x.2.2.2 x0]) hx (dc kL_told_5 55 rfl) (cI _ my_L_count lm_L_202 (by decide)) st_L_count rfl (fun u hu => sL_count _ _ _ _ _ hu) (sum_le (sum_R (sum_R (sum_R sum_nil))) (by decide)) rfl (fun v146 h147 => ?_)
              refine w_cVRW (q := 783) (As := [vR x.2.2.2 v146]) (st := [vR x.2.2.2 x3, vR x.2.2.2 x0]) hx (dc kL_told_5 56 rfl) cf16 (by decide) rfl (cI _ my_J4_append_15ec4 lm_L_130 (by decide)) vs_J4_append_15ec4 rfl (fun u hu => sJ4_append_15ec4 _ _ _ _ _ _ hu) (fun e => ite_ne (by unfold mJ4_append_15ec4 at e; exact e)) (sum_le (sum_R (sum_R sum_nil)) (by decide)) rfl (fun v148 h149 => ?_)
              refine j_iload (q := 785) hx (dc kL_told_5 57 rfl) 0 rfl rfl ?_
              refine j_iconst (q := 786) (v := (1 : Int32)) hx (dc kL_told_5 58 rfl) (by decide) rfl ?_
              refine j_icmp_neS (q := 789) (tgt := 794) hx (dc kL_told_5 59 rfl) (by decide) rfl ?_ ?_
              · refine j_ldcS (a := 22) (q := 796) hx (show (_, _, " !", _) ∈ strs0 by decide +kernel) (dc kL_told_5 62 rfl) rfl ?_
                exact j_sub [1, 2, 3, 4, 5, 6, 7, 0] rfl (hb796 x0 x2 x3 x4 x10 x11 x12 t0 x0 x3 v148 32 h149)
              · refine j_ldcS (a := 2) (q := 791) hx (show (_, _, " ", _) ∈ strs0 by decide +kernel) (dc kL_told_5 60 rfl) rfl ?_
                refine j_goto (q := 796) hx (dc kL_told_5 61 rfl) (by decide) ?_
                exact j_sub [1, 2, 3, 4, 5, 6, 7, 0] rfl (hb796 x0 x2 x3 x4 x10 x11 x12 t0 x0 x3 v148 12 h149)
          unfold mL_told_l717f
          refine j_iload (q := 719) hx (dc kL_told_5 24 rfl) 5 rfl rfl ?_
          refine j_if_leS (q := 722) (tgt := 854) hx (dc kL_told_5 25 rfl) (by decide) rfl ?_ ?_
          · refine j_exit ?_
            refine j_iload (q := 856) hx (dc kL_told_6 25 rfl) 3 rfl rfl ?_
            refine j_if_leS (q := 859) (tgt := 941) hx (dc kL_told_6 26 rfl) (by decide) rfl ?_ ?_
            · exact j_sub [0, 1, 2, 3] rfl (hb941 x0 x2 x3 x4 h)
            · refine j_aload_n (q := 860) hx (dc kL_told_6 27 rfl) rfl 0 rfl rfl ?_
              refine j_iconst (q := 861) (v := (2 : Int32)) hx (dc kL_told_6 28 rfl) (by decide) rfl ?_
              refine w_cVIW (q := 864) (As := [.int (2 : Int32)]) (st := []) hx (dc kL_told_6 29 rfl) cf15 (by decide) rfl (cI _ my_L_draw lm_L_75 (by decide)) vs_L_draw rfl (fun u hu => sL_draw _ _ _ _ _ _ hu) (fun e => ite_ne (by unfold mL_draw at e; exact e)) (Nat.zero_le _) rfl (fun v104 h105 => ?_)
              refine j_if_neS (q := 867) (tgt := 941) hx (dc kL_told_6 30 rfl) (by decide) rfl ?_ ?_
              · exact j_sub [0, 1, 2, 3] rfl (hb941 x0 x2 x3 x4 h105)
              · refine j_aload_n (q := 868) hx (dc kL_told_6 31 rfl) rfl 0 rfl rfl ?_
                refine j_iload (q := 870) hx (dc kL_told_6 32 rfl) 3 rfl rfl ?_
                refine w_cVIW (q := 873) (As := [.int x4]) (st := []) hx (dc kL_told_6 33 rfl) cf15 (by decide) rfl (cI _ my_L_draw lm_L_75 (by decide)) vs_L_draw rfl (fun u hu => sL_draw _ _ _ _ _ _ hu) (fun e => ite_ne (by unfold mL_draw at e; exact e)) (Nat.zero_le _) rfl (fun v106 h107 => ?_)
                refine j_istore (q := 875) (i := 11) (l2 := [(0, vR x.2.2.2 x0), (2, .int x2), (3, vR x.2.2.2 x3), (4, .int x4)]) hx (dc kL_told_6 34 rfl) (hn 11 (by decide)) [0, 1, 2, 3] rfl ⟨⟨show (0 : Nat) ≠ 11 by decide, Or.inl (show (0 : Nat) + 1 ≠ 11 by decide)⟩, ⟨⟨show (2 : Nat) ≠ 11 by decide, Or.inl (show (2 : Nat) + 1 ≠ 11 by decide)⟩, ⟨⟨show (3 : Nat) ≠ 11 by decide, Or.inl (show (3 : Nat) + 1 ≠ 11 by decide)⟩, ⟨⟨show (4 : Nat) ≠ 11 by decide, Or.inl (show (4 : Nat) + 1 ≠ 11 by decide)⟩, trivial⟩⟩⟩⟩ rfl ?_
                refine j_aload_n (q := 876) hx (dc kL_told_6 35 rfl) rfl 1 rfl rfl ?_
                refine j_aload_n (q := 877) hx (dc kL_told_6 36 rfl) rfl 3 rfl rfl ?_
                refine j_new (q := 880) hx (dc kL_told_6 37 rfl) cf16 (by decide) nw_L_127 rfl (fun v109 hvv109 h108 => ?_)
                refine j_dup (q := 881) hx (dc kL_told_6 38 rfl) (vR_cat _ _) rfl ?_
                refine w_cIVW (q := 884) (As := []) (st := [vR x.2.2.2 v109, vR x.2.2.2 x3, vR x.2.2.2 x0]) hx (dc kL_told_6 39 rfl) (cI _ my_J4_init_da8c8 lm_L_129 (by decide)) is_J4_init_da8c8 rfl rfl (fun u hu => sJ4_init_da8c8 hvv109 _ _ _ _ hu) hvv109 (sum_le (sum_R (sum_R (sum_R sum_nil))) (by decide)) rfl (fun h111 => ?_)
                refine j_ldcS (a := 23) (q := 886) hx (show (_, _, "same ", _) ∈ strs0 by decide +kernel) (dc kL_told_6 40 rfl) rfl ?_
                refine w_cVRW (q := 889) (As := [vR x.2.2.2 33]) (st := [vR x.2.2.2 x3, vR x.2.2.2 x0]) hx (dc kL_told_6 41 rfl) cf16 (by decide) rfl (cI _ my_J4_append_15ec4 lm_L_130 (by decide)) vs_J4_append_15ec4 rfl (fun u hu => sJ4_append_15ec4 _ _ _ _ _ _ hu) (fun e => ite_ne (by unfold mJ4_append_15ec4 at e; exact e)) (sum_le (sum_R (sum_R sum_nil)) (by decide)) rfl (fun v112 h113 => ?_)
                refine j_iload (q := 891) hx (dc kL_told_6 42 rfl) 4 rfl rfl ?_
                refine w_cSRW (q := 894) (As := [.int x4]) (st := [vR x.2.2.2 v112, vR x.2.2.2 x3, vR x.2.2.2 x0]) hx (dc kL_told_6 43 rfl) (cI _ my_L_count lm_L_202 (by decide)) st_L_count rfl (fun u hu => sL_count _ _ _ _ _ hu) (sum_le (sum_R (sum_R (sum_R sum_nil))) (by decide)) rfl (fun v114 h115 => ?_)
                refine w_cVRW (q := 897) (As := [vR x.2.2.2 v114]) (st := [vR x.2.2.2 x3, vR x.2.2.2 x0]) hx (dc kL_told_6 44 rfl) cf16 (by decide) rfl (cI _ my_J4_append_15ec4 lm_L_130 (by decide)) vs_J4_append_15ec4 rfl (fun u hu => sJ4_append_15ec4 _ _ _ _ _ _ hu) (fun e => ite_ne (by unfold mJ4_append_15ec4 at e; exact e)) (sum_le (sum_R (sum_R sum_nil)) (by decide)) rfl (fun v116 h117 => ?_)
                refine j_ldcS (a := 2) (q := 899) hx (show (_, _, " ", _) ∈ strs0 by decide +kernel) (dc kL_told_6 45 rfl) rfl ?_
                refine w_cVRW (q := 902) (As := [vR x.2.2.2 12]) (st := [vR x.2.2.2 x3, vR x.2.2.2 x0]) hx (dc kL_told_6 46 rfl) cf16 (by decide) rfl (cI _ my_J4_append_15ec4 lm_L_130 (by decide)) vs_J4_append_15ec4 rfl (fun u hu => sJ4_append_15ec4 _ _ _ _ _ _ hu) (fun e => ite_ne (by unfold mJ4_append_15ec4 at e; exact e)) (sum_le (sum_R (sum_R sum_nil)) (by decide)) rfl (fun v118 h119 => ?_)
                refine j_iload (q := 904) hx (dc kL_told_6 47 rfl) 0 rfl rfl ?_
                refine w_cSRW (q := 907) (As := [.int v106]) (st := [vR x.2.2.2 v118, vR x.2.2.2 x3, vR x.2.2.2 x0]) hx (dc kL_told_6 48 rfl) (cI _ my_L_count lm_L_202 (by decide)) st_L_count rfl (fun u hu => sL_count _ _ _ _ _ hu) (sum_le (sum_R (sum_R (sum_R sum_nil))) (by decide)) rfl (fun v120 h121 => ?_)
                refine w_cVRW (q := 910) (As := [vR x.2.2.2 v120]) (st := [vR x.2.2.2 x3, vR x.2.2.2 x0]) hx (dc kL_told_6 49 rfl) cf16 (by decide) rfl (cI _ my_J4_append_15ec4 lm_L_130 (by decide)) vs_J4_append_15ec4 rfl (fun u hu => sJ4_append_15ec4 _ _ _ _ _ _ hu) (fun e => ite_ne (by unfold mJ4_append_15ec4 at e; exact e)) (sum_le (sum_R (sum_R sum_nil)) (by decide)) rfl (fun v122 h123 => ?_)
                refine w_cVRW (q := 913) (As := []) (st := [vR x.2.2.2 x3, vR x.2.2.2 x0]) hx (dc kL_told_6 50 rfl) cf16 (by decide) rfl (cI _ my_J4_toString_0e30d lm_L_137 (by decide)) vs_J4_toString_0e30d rfl (fun u hu => sJ4_toString_0e30d _ _ _ _ _ hu) (fun e => ite_ne (by unfold mJ4_toString_0e30d at e; exact e)) (sum_le (sum_R (sum_R sum_nil)) (by decide)) rfl (fun v124 h125 => ?_)
                refine w_cVIW (q := 916) (As := [vR x.2.2.2 x3, vR x.2.2.2 v124]) (st := []) hx (dc kL_told_6 51 rfl) cf15 (by decide) rfl (cI _ my_L_fits lm_L_172 (by decide)) vs_L_fits rfl (fun u hu => sL_fits _ _ _ _ _ _ _ hu) (fun e => ite_ne (by unfold mL_fits at e; exact e)) (Nat.zero_le _) rfl (fun v126 h127 => ?_)
                refine j_if_eq (q := 919) (tgt := 941) hx (dc kL_told_6 52 rfl) (by decide) Iff.rfl rfl ?_ ?_
                · exact j_sub [1, 2, 3, 4] rfl (hb941 x0 x2 x3 x4 h127)
                · refine j_aload_n (q := 920) hx (dc kL_told_6 53 rfl) rfl 1 rfl rfl ?_
                  refine w_gR (q := 923) hx (dc kL_told_6 54 rfl) ff_L_8 lk_L_29 rfl (fun v128 => ?_)
                  refine j_iload (q := 925) hx (dc kL_told_6 55 rfl) 4 rfl rfl ?_
                  refine j_ldR79 (q := 926) hx (dc kL_told_6 56 rfl) rfl (fun v129 => ?_)
                  refine j_iload (q := 928) hx (dc kL_told_6 57 rfl) 0 rfl rfl ?_
                  refine j_iconst (q := 929) (v := (1 : Int32)) hx (dc kL_told_6 58 rfl) (by decide) rfl ?_
                  refine w_stZ (q := 930) hx (dc kL_told_6 59 rfl) rfl (fun h130 => ?_)
                  refine j_aload_n (q := 931) hx (dc kL_told_6 60 rfl) rfl 1 rfl rfl ?_
                  refine w_gR (q := 934) hx (dc kL_told_6 61 rfl) ff_L_8 lk_L_29 rfl (fun v131 => ?_)
                  refine j_iload (q := 936) hx (dc kL_told_6 62 rfl) 0 rfl rfl ?_
                  refine j_ldR79 (q := 937) hx (dc kL_told_6 63 rfl) rfl (fun v132 => ?_)
                  refine j_iload (q := 939) hx (dc kL_told_7 0 rfl) 4 rfl rfl ?_
                  refine j_iconst (q := 940) (v := (1 : Int32)) hx (dc kL_told_7 1 rfl) (by decide) rfl ?_
                  refine w_stZ (q := 941) hx (dc kL_told_7 2 rfl) rfl (fun h133 => ?_)
                  exact j_sub [1, 2, 3, 4] rfl (hb941 x0 x2 x3 x4 h133)
          · refine j_aload_n (q := 723) hx (dc kL_told_5 26 rfl) rfl 0 rfl rfl ?_
            refine j_aload_n (q := 724) hx (dc kL_told_5 27 rfl) rfl 0 rfl rfl ?_
            refine w_gI (q := 727) hx (dc kL_told_5 28 rfl) ff_L_3 lk_L_87 rfl (fun v134 => ?_)
            refine w_cVIW (q := 730) (As := [.int v134]) (st := []) hx (dc kL_told_5 29 rfl) cf15 (by decide) rfl (cI _ my_L_draw lm_L_75 (by decide)) vs_L_draw rfl (fun u hu => sL_draw _ _ _ _ _ _ hu) (fun e => ite_ne (by unfold mL_draw at e; exact e)) (Nat.zero_le _) rfl (fun v135 h136 => ?_)
            refine j_istore (q := 732) (i := 12) (l2 := [(0, vR x.2.2.2 x0), (2, .int x2), (3, vR x.2.2.2 x3), (4, .int x4), (10, vR x.2.2.2 x10), (11, .int x11)]) hx (dc kL_told_5 30 rfl) (hn 12 (by decide)) [0, 1, 2, 3, 4, 5] rfl ⟨⟨show (0 : Nat) ≠ 12 by decide, Or.inl (show (0 : Nat) + 1 ≠ 12 by decide)⟩, ⟨⟨show (2 : Nat) ≠ 12 by decide, Or.inl (show (2 : Nat) + 1 ≠ 12 by decide)⟩, ⟨⟨show (3 : Nat) ≠ 12 by decide, Or.inl (show (3 : Nat) + 1 ≠ 12 by decide)⟩, ⟨⟨show (4 : Nat) ≠ 12 by decide, Or.inl (show (4 : Nat) + 1 ≠ 12 by decide)⟩, ⟨⟨show (10 : Nat) ≠ 12 by decide, Or.inl (show (10 : Nat) + 1 ≠ 12 by decide)⟩, ⟨⟨show (11 : Nat) ≠ 12 by decide, Or.inr rfl⟩, trivial⟩⟩⟩⟩⟩⟩ rfl ?_
            refine j_aload_n (q := 733) hx (dc kL_told_5 31 rfl) rfl 1 rfl rfl ?_
            refine j_iconst (q := 734) (v := (4 : Int32)) hx (dc kL_told_5 32 rfl) (by decide) rfl ?_
            refine w_cVIW (q := 737) (As := [.int (4 : Int32)]) (st := []) hx (dc kL_told_5 33 rfl) cf15 (by decide) rfl (cI _ my_L_draw lm_L_75 (by decide)) vs_L_draw rfl (fun u hu => sL_draw _ _ _ _ _ _ hu) (fun e => ite_ne (by unfold mL_draw at e; exact e)) (Nat.zero_le _) rfl (fun v137 h138 => ?_)
            refine j_if_neS (q := 740) (tgt := 744) hx (dc kL_told_5 34 rfl) (by decide) rfl ?_ ?_
            · refine j_iconst (q := 745) (v := (1 : Int32)) hx (dc kL_told_5 37 rfl) (by decide) rfl ?_
              exact j_sub [1, 2, 3, 4, 5, 6, 0] rfl (hb745 x0 x2 x3 x4 x10 x11 v135 (1 : Int32) h138)
            · refine j_iconst (q := 741) (v := (0 : Int32)) hx (dc kL_told_5 35 rfl) (by decide) rfl ?_
              refine j_goto (q := 745) hx (dc kL_told_5 36 rfl) (by decide) ?_
              exact j_sub [1, 2, 3, 4, 5, 6, 0] rfl (hb745 x0 x2 x3 x4 x10 x11 v135 (0 : Int32) h138)
        exact j_loop (S := (Int32 × Hp)) (lvf := fun s => [(0, vR x.2.2.2 x0), (2, .int x2), (3, vR x.2.2.2 x3), (4, .int x4), (10, vR x.2.2.2 x10), (11, .int s.1)]) (hpf := fun s => s.2) (f := (fun s : (Int32 × Hp) => mL_told_l717f x0 x2 x3 x4 x10 s.1 s.2)) (fun s => hB s.1 s.2) (x11, h)
      have hb663 : ∀ (x0 : Nat) (x2 : Int32) (x3 : Nat) (x4 : Int32) (x5 : Nat) (x6 : Nat) (x7 : Int32) (x8 : Int32) (h : Hp), J x 663 [(0, vR x.2.2.2 x0), (2, .int x2), (3, vR x.2.2.2 x3), (4, .int x4), (5, vR x.2.2.2 x5), (6, vR x.2.2.2 x6), (7, .int x7), (8, .int x8)] [] h (mL_told_b663 x0 x2 x3 x4 x5 x6 x7 x8 h) (TLo (S := (Int32 × Hp)) x 390 (fun s => [(0, vR x.2.2.2 x0), (2, .int x2), (3, vR x.2.2.2 x3), (4, .int s.1)]) [] (fun s => s.2) (fun r => r = u)) := by
        intro x0 x2 x3 x4 x5 x6 x7 x8 h
        unfold mL_told_b663
        refine j_new (q := 666) hx (dc kL_told_4 63 rfl) cf12 (by decide) nw_L_213 rfl (fun v92 hvv92 h91 => ?_)
        refine j_dup (q := 667) hx (dc kL_told_5 0 rfl) (vR_cat _ _) rfl ?_
        refine j_aload (q := 669) hx (dc kL_told_5 1 rfl) 4 rfl rfl ?_
        refine j_aload (q := 671) hx (dc kL_told_5 2 rfl) 5 rfl rfl ?_
        refine w_cIVW (q := 674) (As := [vR x.2.2.2 x5, vR x.2.2.2 x6]) (st := [vR x.2.2.2 v92]) hx (dc kL_told_5 3 rfl) (cI _ my_X12_init lm_L_215 (by decide)) is_X12_init rfl rfl (fun u hu => sX12_init hvv92 _ _ _ _ _ _ hu) hvv92 (sum_le (sum_R sum_nil) (by decide)) rfl (fun h94 => ?_)
        refine j_astore (q := 676) (i := 10) (l2 := [(0, vR x.2.2.2 x0), (2, .int x2), (3, vR x.2.2.2 x3), (4, .int x4), (7, .int x7), (8, .int x8)]) hx (dc kL_told_5 4 rfl) (hn 10 (by decide)) [0, 1, 2, 3, 6, 7] rfl ⟨⟨show (0 : Nat) ≠ 10 by decide, Or.inl (show (0 : Nat) + 1 ≠ 10 by decide)⟩, ⟨⟨show (2 : Nat) ≠ 10 by decide, Or.inl (show (2 : Nat) + 1 ≠ 10 by decide)⟩, ⟨⟨show (3 : Nat) ≠ 10 by decide, Or.inl (show (3 : Nat) + 1 ≠ 10 by decide)⟩, ⟨⟨show (4 : Nat) ≠ 10 by decide, Or.inl (show (4 : Nat) + 1 ≠ 10 by decide)⟩, ⟨⟨show (7 : Nat) ≠ 10 by decide, Or.inl (show (7 : Nat) + 1 ≠ 10 by decide)⟩, ⟨⟨show (8 : Nat) ≠ 10 by decide, Or.inl (show (8 : Nat) + 1 ≠ 10 by decide)⟩, trivial⟩⟩⟩⟩⟩⟩ rfl ?_
        refine j_aload (q := 678) hx (dc kL_told_5 5 rfl) 0 rfl rfl ?_
        refine j_iload (q := 680) hx (dc kL_told_5 6 rfl) 5 rfl rfl ?_
        refine w_sI (q := 683) hx (dc kL_told_5 7 rfl) ff_X12_2 rfl lk_L_218 (Or.inl rfl) rfl (fun h95 => ?_)
        refine j_aload (q := 685) hx (dc kL_told_5 8 rfl) 0 rfl rfl ?_
        refine j_iload (q := 687) hx (dc kL_told_5 9 rfl) 6 rfl rfl ?_
        refine w_sI (q := 690) hx (dc kL_told_5 10 rfl) ff_X12_3 rfl lk_L_221 (Or.inl rfl) rfl (fun h96 => ?_)
        refine j_aload (q := 692) hx (dc kL_told_5 11 rfl) 0 rfl rfl ?_
        refine j_iload (q := 694) hx (dc kL_told_5 12 rfl) 4 rfl rfl ?_
        refine w_sI (q := 697) hx (dc kL_told_5 13 rfl) ff_X12_7 rfl lk_L_224 (Or.inl rfl) rfl (fun h97 => ?_)
        refine j_aload_n (q := 698) hx (dc kL_told_5 14 rfl) rfl 1 rfl rfl ?_
        refine w_gR (q := 701) hx (dc kL_told_5 15 rfl) ff_L_9 lk_L_109 rfl (fun v98 => ?_)
        refine w_gR (q := 704) hx (dc kL_told_5 16 rfl) ff_X14_2 lk_L_227 rfl (fun v99 => ?_)
        refine j_aload (q := 706) hx (dc kL_told_5 17 rfl) 0 rfl rfl ?_
        refine w_cVIW (q := 709) (As := [vR x.2.2.2 v92]) (st := []) hx (dc kL_told_5 18 rfl) cf18 (by decide) rfl (cI _ my_Jx4a65c_add_9ea2d lm_L_176 (by decide)) vs_Jx4a65c_add_9ea2d rfl (fun u hu => sJx4a65c_add_9ea2d _ _ _ _ _ _ hu) (fun e => ite_ne (by unfold mJx4a65c_add_9ea2d at e; exact e)) (Nat.zero_le _) rfl (fun v100 h101 => ?_)
        refine j_pop (q := 710) hx (dc kL_told_5 19 rfl) rfl rfl ?_
        refine j_aload_n (q := 711) hx (dc kL_told_5 20 rfl) rfl 1 rfl rfl ?_
        refine j_iconst (q := 712) (v := (4 : Int32)) hx (dc kL_told_5 21 rfl) (by decide) rfl ?_
        refine w_cVIW (q := 715) (As := [.int (4 : Int32)]) (st := []) hx (dc kL_told_5 22 rfl) cf15 (by decide) rfl (cI _ my_L_draw lm_L_75 (by decide)) vs_L_draw rfl (fun u hu => sL_draw _ _ _ _ _ _ hu) (fun e => ite_ne (by unfold mL_draw at e; exact e)) (Nat.zero_le _) rfl (fun v102 h103 => ?_)
        refine j_istore (q := 717) (i := 11) (l2 := [(10, vR x.2.2.2 v92), (0, vR x.2.2.2 x0), (2, .int x2), (3, vR x.2.2.2 x3), (4, .int x4)]) hx (dc kL_told_5 23 rfl) (hn 11 (by decide)) [0, 1, 2, 3, 4] rfl ⟨⟨show (10 : Nat) ≠ 11 by decide, Or.inr (vR_cat _ _)⟩, ⟨⟨show (0 : Nat) ≠ 11 by decide, Or.inl (show (0 : Nat) + 1 ≠ 11 by decide)⟩, ⟨⟨show (2 : Nat) ≠ 11 by decide, Or.inl (show (2 : Nat) + 1 ≠ 11 by decide)⟩, ⟨⟨show (3 : Nat) ≠ 11 by decide, Or.inl (show (3 : Nat) + 1 ≠ 11 by decide)⟩, ⟨⟨show (4 : Nat) ≠ 11 by decide, Or.inl (show (4 : Nat) + 1 ≠ 11 by decide)⟩, trivial⟩⟩⟩⟩⟩ rfl ?_
        exact j_sub [2, 3, 4, 5, 1, 0] rfl (hb717 x0 x2 x3 x4 v92 v102 h103)
      have hb604 : ∀ (x0 : Nat) (x2 : Int32) (x3 : Nat) (x4 : Int32) (x5 : Nat) (x6 : Nat) (x7 : Int32) (x8 : Int32) (h : Hp), J x 604 [(0, vR x.2.2.2 x0), (2, .int x2), (3, vR x.2.2.2 x3), (4, .int x4), (5, vR x.2.2.2 x5), (6, vR x.2.2.2 x6), (7, .int x7), (8, .int x8)] [] h (mL_told_b604 x0 x2 x3 x4 x5 x6 x7 x8 h) (TLo (S := (Int32 × Hp)) x 390 (fun s => [(0, vR x.2.2.2 x0), (2, .int x2), (3, vR x.2.2.2 x3), (4, .int s.1)]) [] (fun s => s.2) (fun r => r = u)) := by
        intro x0 x2 x3 x4 x5 x6 x7 x8 h
        unfold mL_told_b604
        refine j_aload (q := 606) hx (dc kL_told_4 36 rfl) 5 rfl rfl ?_
        refine j_alen (q := 607) hx (dc kL_told_4 37 rfl) rfl (fun v90 => ?_)
        refine j_iconst (q := 608) (v := (1 : Int32)) hx (dc kL_told_4 38 rfl) (by decide) rfl ?_
        refine j_icmp_neS (q := 611) (tgt := 663) hx (dc kL_told_4 39 rfl) (by decide) rfl ?_ ?_
        · exact hb663 x0 x2 x3 x4 x5 x6 x7 x8 h
        · refine j_aload_n (q := 612) hx (dc kL_told_4 40 rfl) rfl 0 rfl rfl ?_
          refine j_aload_n (q := 613) hx (dc kL_told_4 41 rfl) rfl 2 rfl rfl ?_
          refine j_new (q := 616) hx (dc kL_told_4 42 rfl) cf16 (by decide) nw_L_127 rfl (fun v165 hvv165 h164 => ?_)
          refine j_dup (q := 617) hx (dc kL_told_4 43 rfl) (vR_cat _ _) rfl ?_
          refine w_cIVW (q := 620) (As := []) (st := [vR x.2.2.2 v165, vR x.2.2.2 x3, vR x.2.2.2 x0]) hx (dc kL_told_4 44 rfl) (cI _ my_J4_init_da8c8 lm_L_129 (by decide)) is_J4_init_da8c8 rfl rfl (fun u hu => sJ4_init_da8c8 hvv165 _ _ _ _ hu) hvv165 (sum_le (sum_R (sum_R (sum_R sum_nil))) (by decide)) rfl (fun h167 => ?_)
          refine j_ldcS (a := 20) (q := 622) hx (show (_, _, "plea ", _) ∈ strs0 by decide +kernel) (dc kL_told_4 45 rfl) rfl ?_
          refine w_cVRW (q := 625) (As := [vR x.2.2.2 30]) (st := [vR x.2.2.2 x3, vR x.2.2.2 x0]) hx (dc kL_told_4 46 rfl) cf16 (by decide) rfl (cI _ my_J4_append_15ec4 lm_L_130 (by decide)) vs_J4_append_15ec4 rfl (fun u hu => sJ4_append_15ec4 _ _ _ _ _ _ hu) (fun e => ite_ne (by unfold mJ4_append_15ec4 at e; exact e)) (sum_le (sum_R (sum_R sum_nil)) (by decide)) rfl (fun v168 h169 => ?_)
          refine j_iload (q := 627) hx (dc kL_told_4 47 rfl) 3 rfl rfl ?_
          refine w_cSRW (q := 630) (As := [.int x4]) (st := [vR x.2.2.2 v168, vR x.2.2.2 x3, vR x.2.2.2 x0]) hx (dc kL_told_4 48 rfl) (cI _ my_L_count lm_L_202 (by decide)) st_L_count rfl (fun u hu => sL_count _ _ _ _ _ hu) (sum_le (sum_R (sum_R (sum_R sum_nil))) (by decide)) rfl (fun v170 h171 => ?_)
          refine w_cVRW (q := 633) (As := [vR x.2.2.2 v170]) (st := [vR x.2.2.2 x3, vR x.2.2.2 x0]) hx (dc kL_told_4 49 rfl) cf16 (by decide) rfl (cI _ my_J4_append_15ec4 lm_L_130 (by decide)) vs_J4_append_15ec4 rfl (fun u hu => sJ4_append_15ec4 _ _ _ _ _ _ hu) (fun e => ite_ne (by unfold mJ4_append_15ec4 at e; exact e)) (sum_le (sum_R (sum_R sum_nil)) (by decide)) rfl (fun v172 h173 => ?_)
          refine j_ldcS (a := 2) (q := 635) hx (show (_, _, " ", _) ∈ strs0 by decide +kernel) (dc kL_told_4 50 rfl) rfl ?_
          refine w_cVRW (q := 638) (As := [vR x.2.2.2 12]) (st := [vR x.2.2.2 x3, vR x.2.2.2 x0]) hx (dc kL_told_4 51 rfl) cf16 (by decide) rfl (cI _ my_J4_append_15ec4 lm_L_130 (by decide)) vs_J4_append_15ec4 rfl (fun u hu => sJ4_append_15ec4 _ _ _ _ _ _ hu) (fun e => ite_ne (by unfold mJ4_append_15ec4 at e; exact e)) (sum_le (sum_R (sum_R sum_nil)) (by decide)) rfl (fun v174 h175 => ?_)
          refine j_aload (q := 640) hx (dc kL_told_4 52 rfl) 5 rfl rfl ?_
          refine j_iconst (q := 641) (v := (0 : Int32)) hx (dc kL_told_4 53 rfl) (by decide) rfl ?_
          refine j_ldR (t := 2) (q := 642) hx (dc kL_told_4 54 rfl) rfl (by decide) rfl (fun v176 => ?_)
          refine w_cVRW (q := 645) (As := []) (st := [vR x.2.2.2 v174, vR x.2.2.2 x3, vR x.2.2.2 x0]) hx (dc kL_told_4 55 rfl) cf13 (by decide) rfl (cI _ my_X13_all lm_L_192 (by decide)) vs_X13_all rfl (fun u hu => sX13_all 40 _ _ _ _ _ hu) (kX13_all 40 _ _) (sum_le (sum_R (sum_R (sum_R sum_nil))) (by decide)) rfl (fun v177 h178 => ?_)
          refine w_cVRW (q := 648) (As := [vR x.2.2.2 v177]) (st := [vR x.2.2.2 x3, vR x.2.2.2 x0]) hx (dc kL_told_4 56 rfl) cf16 (by decide) rfl (cI _ my_J4_append_15ec4 lm_L_130 (by decide)) vs_J4_append_15ec4 rfl (fun u hu => sJ4_append_15ec4 _ _ _ _ _ _ hu) (fun e => ite_ne (by unfold mJ4_append_15ec4 at e; exact e)) (sum_le (sum_R (sum_R sum_nil)) (by decide)) rfl (fun v179 h180 => ?_)
          refine w_cVRW (q := 651) (As := []) (st := [vR x.2.2.2 x3, vR x.2.2.2 x0]) hx (dc kL_told_4 57 rfl) cf16 (by decide) rfl (cI _ my_J4_toString_0e30d lm_L_137 (by decide)) vs_J4_toString_0e30d rfl (fun u hu => sJ4_toString_0e30d _ _ _ _ _ hu) (fun e => ite_ne (by unfold mJ4_toString_0e30d at e; exact e)) (sum_le (sum_R (sum_R sum_nil)) (by decide)) rfl (fun v181 h182 => ?_)
          refine w_cVIW (q := 654) (As := [vR x.2.2.2 x3, vR x.2.2.2 v181]) (st := []) hx (dc kL_told_4 58 rfl) cf15 (by decide) rfl (cI _ my_L_fits lm_L_172 (by decide)) vs_L_fits rfl (fun u hu => sL_fits _ _ _ _ _ _ _ hu) (fun e => ite_ne (by unfold mL_fits at e; exact e)) (Nat.zero_le _) rfl (fun v183 h184 => ?_)
          refine j_if_neS (q := 657) (tgt := 663) hx (dc kL_told_4 59 rfl) (by decide) rfl ?_ ?_
          · exact hb663 x0 x2 x3 x4 x5 x6 x7 x8 h184
          · refine j_iconst (q := 658) (v := (0 : Int32)) hx (dc kL_told_4 60 rfl) (by decide) rfl ?_
            refine j_anewarrayV73 (q := 661) hx (dc kL_told_4 61 rfl) na_L_78 rfl (fun v186 hvv186 h185 => ?_)
            refine j_astore (q := 663) (i := 6) (l2 := [(0, vR x.2.2.2 x0), (2, .int x2), (3, vR x.2.2.2 x3), (4, .int x4), (5, vR x.2.2.2 x5), (7, .int x7), (8, .int x8)]) hx (dc kL_told_4 62 rfl) (hn 6 (by decide)) [0, 1, 2, 3, 4, 6, 7] rfl ⟨⟨show (0 : Nat) ≠ 6 by decide, Or.inl (show (0 : Nat) + 1 ≠ 6 by decide)⟩, ⟨⟨show (2 : Nat) ≠ 6 by decide, Or.inl (show (2 : Nat) + 1 ≠ 6 by decide)⟩, ⟨⟨show (3 : Nat) ≠ 6 by decide, Or.inl (show (3 : Nat) + 1 ≠ 6 by decide)⟩, ⟨⟨show (4 : Nat) ≠ 6 by decide, Or.inl (show (4 : Nat) + 1 ≠ 6 by decide)⟩, ⟨⟨show (5 : Nat) ≠ 6 by decide, Or.inr (vR_cat _ _)⟩, ⟨⟨show (7 : Nat) ≠ 6 by decide, Or.inl (show (7 : Nat) + 1 ≠ 6 by decide)⟩, ⟨⟨show (8 : Nat) ≠ 6 by decide, Or.inl (show (8 : Nat) + 1 ≠ 6 by decide)⟩, trivial⟩⟩⟩⟩⟩⟩⟩ rfl ?_
            exact j_sub [1, 2, 3, 4, 5, 0, 6, 7] rfl (hb663 x0 x2 x3 x4 x5 v186 x7 x8 h185)
      have hb510 : ∀ (x0 : Nat) (x2 : Int32) (x3 : Nat) (x4 : Int32) (x5 : Nat) (x6 : Nat) (x7 : Int32) (x8 : Int32) (x9 : Nat) (x10 : Int32) (h : Hp), J x 510 [(0, vR x.2.2.2 x0), (2, .int x2), (3, vR x.2.2.2 x3), (4, .int x4), (5, vR x.2.2.2 x5), (6, vR x.2.2.2 x6), (7, .int x7), (8, .int x8), (9, vR x.2.2.2 x9), (10, .int x10)] [] h (mL_told_l510 x0 x2 x3 x4 x5 x6 x7 x8 x9 x10 h) (TLo (S := (Int32 × Hp)) x 390 (fun s => [(0, vR x.2.2.2 x0), (2, .int x2), (3, vR x.2.2.2 x3), (4, .int s.1)]) [] (fun s => s.2) (fun r => r = u)) := by
        intro x0 x2 x3 x4 x5 x6 x7 x8 x9 x10 h
        have hB : ∀ (x10 : Int32) (h : Hp), J x 510 [(0, vR x.2.2.2 x0), (2, .int x2), (3, vR x.2.2.2 x3), (4, .int x4), (5, vR x.2.2.2 x5), (6, vR x.2.2.2 x6), (7, .int x7), (8, .int x8), (9, vR x.2.2.2 x9), (10, .int x10)] [] h (mL_told_l510f x0 x2 x3 x4 x5 x6 x7 x8 x9 x10 h) (TLo (S := (Int32 × Hp)) x 510 (fun s => [(0, vR x.2.2.2 x0), (2, .int x2), (3, vR x.2.2.2 x3), (4, .int x4), (5, vR x.2.2.2 x5), (6, vR x.2.2.2 x6), (7, .int x7), (8, .int x8), (9, vR x.2.2.2 x9), (10, .int s.1)]) [] (fun s => s.2) (TLo (S := (Int32 × Hp)) x 390 (fun s => [(0, vR x.2.2.2 x0), (2, .int x2), (3, vR x.2.2.2 x3), (4, .int s.1)]) [] (fun s => s.2) (fun r => r = u))) := by
          intro x10 h
          unfold mL_told_l510f
          refine j_iload (q := 512) hx (dc kL_told_3 53 rfl) 9 rfl rfl ?_
          refine j_aload (q := 514) hx (dc kL_told_3 54 rfl) 4 rfl rfl ?_
          refine j_alen (q := 515) hx (dc kL_told_3 55 rfl) rfl (fun v84 => ?_)
          refine j_icmp_geS (q := 518) (tgt := 568) hx (dc kL_told_3 56 rfl) (by decide) rfl ?_ ?_
          · refine j_exit ?_
            refine j_aload_n (q := 569) hx (dc kL_told_4 17 rfl) rfl 0 rfl rfl ?_
            refine j_aload_n (q := 570) hx (dc kL_told_4 18 rfl) rfl 2 rfl rfl ?_
            refine j_aload (q := 572) hx (dc kL_told_4 19 rfl) 8 rfl rfl ?_
            refine w_cVRW (q := 575) (As := []) (st := [vR x.2.2.2 x3, vR x.2.2.2 x0]) hx (dc kL_told_4 20 rfl) cf16 (by decide) rfl (cI _ my_J4_toString_0e30d lm_L_137 (by decide)) vs_J4_toString_0e30d rfl (fun u hu => sJ4_toString_0e30d _ _ _ _ _ hu) (fun e => ite_ne (by unfold mJ4_toString_0e30d at e; exact e)) (sum_le (sum_R (sum_R sum_nil)) (by decide)) rfl (fun v85 h86 => ?_)
            refine w_cVIW (q := 578) (As := [vR x.2.2.2 x3, vR x.2.2.2 v85]) (st := []) hx (dc kL_told_4 21 rfl) cf15 (by decide) rfl (cI _ my_L_fits lm_L_172 (by decide)) vs_L_fits rfl (fun u hu => sL_fits _ _ _ _ _ _ _ hu) (fun e => ite_ne (by unfold mL_fits at e; exact e)) (Nat.zero_le _) rfl (fun v87 h88 => ?_)
            refine j_if_neS (q := 581) (tgt := 584) hx (dc kL_told_4 22 rfl) (by decide) rfl ?_ ?_
            · refine j_aload (q := 586) hx (dc kL_told_4 24 rfl) 5 rfl rfl ?_
              refine j_alen (q := 587) hx (dc kL_told_4 25 rfl) rfl (fun v89 => ?_)
              refine j_iconst (q := 588) (v := (1 : Int32)) hx (dc kL_told_4 26 rfl) (by decide) rfl ?_
              refine j_icmp_neS (q := 591) (tgt := 604) hx (dc kL_told_4 27 rfl) (by decide) rfl ?_ ?_
              · exact j_sub [0, 1, 2, 3, 4, 5, 6, 7] rfl (hb604 x0 x2 x3 x4 x5 x6 x7 x8 h88)
              · refine j_aload (q := 593) hx (dc kL_told_4 28 rfl) 5 rfl rfl ?_
                refine j_iconst (q := 594) (v := (0 : Int32)) hx (dc kL_told_4 29 rfl) (by decide) rfl ?_
                refine j_aload_n (q := 595) hx (dc kL_told_4 30 rfl) rfl 0 rfl rfl ?_
                refine j_aload_n (q := 596) hx (dc kL_told_4 31 rfl) rfl 0 rfl rfl ?_
                refine w_gI (q := 599) hx (dc kL_told_4 32 rfl) ff_L_3 lk_L_87 rfl (fun v187 => ?_)
                refine j_iconst (q := 600) (v := (1 : Int32)) hx (dc kL_told_4 33 rfl) (by decide) rfl ?_
                refine w_cVRW (q := 603) (As := [.int v187, .int (1 : Int32)]) (st := [.int (0 : Int32), vR x.2.2.2 x6]) hx (dc kL_told_4 34 rfl) cf15 (by decide) rfl (cI _ my_L_said lm_L_83 (by decide)) vs_L_said rfl (fun u hu => sL_said 40 _ _ _ _ _ _ _ hu) (kL_said 40 _ _ _ _) (sum_le (sum_I (sum_R sum_nil)) (by decide)) rfl (fun v188 h189 => ?_)
                refine w_stR (t := 2) (q := 604) hx (dc kL_told_4 35 rfl) rfl (by decide) rfl cf13 (fun h190 => ?_)
                exact j_sub [0, 1, 2, 3, 4, 5, 6, 7] rfl (hb604 x0 x2 x3 x4 x5 x6 x7 x8 h190)
            · refine j_exit ?_
              refine j_goto (q := 947) hx (dc kL_told_4 23 rfl) (by decide) ?_
              exact j_sub [0, 2] rfl (hb947 x0 x3 h88)
          · refine j_aload (q := 520) hx (dc kL_told_3 57 rfl) 4 rfl rfl ?_
            refine j_iload (q := 522) hx (dc kL_told_3 58 rfl) 9 rfl rfl ?_
            refine j_aload_n (q := 523) hx (dc kL_told_3 59 rfl) rfl 0 rfl rfl ?_
            refine j_aload_n (q := 524) hx (dc kL_told_3 60 rfl) rfl 0 rfl rfl ?_
            refine w_gI (q := 527) hx (dc kL_told_3 61 rfl) ff_L_3 lk_L_87 rfl (fun v191 => ?_)
            refine j_aload_n (q := 528) hx (dc kL_told_3 62 rfl) rfl 0 rfl rfl ?_
            refine j_iconst (q := 529) (v := (3 : Int32)) hx (dc kL_told_3 63 rfl) (by decide) rfl ?_
            refine w_cVIW (q := 532) (As := [.int (3 : Int32)]) (st := [.int v191, vR x.2.2.2 x0, .int x10, vR x.2.2.2 x5]) hx (dc kL_told_4 0 rfl) cf15 (by decide) rfl (cI _ my_L_draw lm_L_75 (by decide)) vs_L_draw rfl (fun u hu => sL_draw _ _ _ _ _ _ hu) (fun e => ite_ne (by unfold mL_draw at e; exact e)) (sum_le (sum_I (sum_R (sum_I (sum_R sum_nil)))) (by decide)) rfl (fun v192 h193 => ?_)
            refine w_cVRW (q := 535) (As := [.int v191, .int v192]) (st := [.int x10, vR x.2.2.2 x5]) hx (dc kL_told_4 1 rfl) cf15 (by decide) rfl (cI _ my_L_said lm_L_83 (by decide)) vs_L_said rfl (fun u hu => sL_said 40 _ _ _ _ _ _ _ hu) (kL_said 40 _ _ _ _) (sum_le (sum_I (sum_R sum_nil)) (by decide)) rfl (fun v194 h195 => ?_)
            refine w_stR (t := 2) (q := 536) hx (dc kL_told_4 2 rfl) rfl (by decide) rfl cf13 (fun h196 => ?_)
            refine j_aload (q := 538) hx (dc kL_told_4 3 rfl) 8 rfl rfl ?_
            refine j_aload_n (q := 539) hx (dc kL_told_4 4 rfl) rfl 0 rfl rfl ?_
            refine w_cVRW (q := 542) (As := []) (st := [vR x.2.2.2 x9]) hx (dc kL_told_4 5 rfl) cf15 (by decide) rfl (cI _ my_L_gap lm_L_144 (by decide)) vs_L_gap rfl (fun u hu => sL_gap _ _ _ _ _ hu) (fun e => ite_ne (by unfold mL_gap at e; exact e)) (sum_le (sum_R sum_nil) (by decide)) rfl (fun v197 h198 => ?_)
            refine w_cVRW (q := 545) (As := [vR x.2.2.2 v197]) (st := []) hx (dc kL_told_4 6 rfl) cf16 (by decide) rfl (cI _ my_J4_append_15ec4 lm_L_130 (by decide)) vs_J4_append_15ec4 rfl (fun u hu => sJ4_append_15ec4 _ _ _ _ _ _ hu) (fun e => ite_ne (by unfold mJ4_append_15ec4 at e; exact e)) (Nat.zero_le _) rfl (fun v199 h200 => ?_)
            refine j_ldcS (a := 19) (q := 547) hx (show (_, _, " needs ", _) ∈ strs0 by decide +kernel) (dc kL_told_4 7 rfl) rfl ?_
            refine w_cVRW (q := 550) (As := [vR x.2.2.2 29]) (st := []) hx (dc kL_told_4 8 rfl) cf16 (by decide) rfl (cI _ my_J4_append_15ec4 lm_L_130 (by decide)) vs_J4_append_15ec4 rfl (fun u hu => sJ4_append_15ec4 _ _ _ _ _ _ hu) (fun e => ite_ne (by unfold mJ4_append_15ec4 at e; exact e)) (Nat.zero_le _) rfl (fun v201 h202 => ?_)
            refine j_aload (q := 552) hx (dc kL_told_4 9 rfl) 4 rfl rfl ?_
            refine j_iload (q := 554) hx (dc kL_told_4 10 rfl) 9 rfl rfl ?_
            refine j_ldR (t := 2) (q := 555) hx (dc kL_told_4 11 rfl) rfl (by decide) rfl (fun v203 => ?_)
            refine w_cVRW (q := 558) (As := []) (st := [vR x.2.2.2 v201]) hx (dc kL_told_4 12 rfl) cf13 (by decide) rfl (cI _ my_X13_all lm_L_192 (by decide)) vs_X13_all rfl (fun u hu => sX13_all 40 _ _ _ _ _ hu) (kX13_all 40 _ _) (sum_le (sum_R sum_nil) (by decide)) rfl (fun v204 h205 => ?_)
            refine w_cVRW (q := 561) (As := [vR x.2.2.2 v204]) (st := []) hx (dc kL_told_4 13 rfl) cf16 (by decide) rfl (cI _ my_J4_append_15ec4 lm_L_130 (by decide)) vs_J4_append_15ec4 rfl (fun u hu => sJ4_append_15ec4 _ _ _ _ _ _ hu) (fun e => ite_ne (by unfold mJ4_append_15ec4 at e; exact e)) (Nat.zero_le _) rfl (fun v206 h207 => ?_)
            refine j_pop (q := 562) hx (dc kL_told_4 14 rfl) (vR_cat _ _) rfl ?_
            refine j_iinc (q := 565) (l2 := [(0, vR x.2.2.2 x0), (2, .int x2), (3, vR x.2.2.2 x3), (4, .int x4), (5, vR x.2.2.2 x5), (6, vR x.2.2.2 x6), (7, .int x7), (8, .int x8), (9, vR x.2.2.2 x9)]) hx (dc kL_told_4 15 rfl) 9 rfl (v := (1 : Int32)) (by decide) (hn 10 (by decide)) [0, 1, 2, 3, 4, 5, 6, 7, 8] rfl ⟨⟨show (0 : Nat) ≠ 10 by decide, Or.inl (show (0 : Nat) + 1 ≠ 10 by decide)⟩, ⟨⟨show (2 : Nat) ≠ 10 by decide, Or.inl (show (2 : Nat) + 1 ≠ 10 by decide)⟩, ⟨⟨show (3 : Nat) ≠ 10 by decide, Or.inl (show (3 : Nat) + 1 ≠ 10 by decide)⟩, ⟨⟨show (4 : Nat) ≠ 10 by decide, Or.inl (show (4 : Nat) + 1 ≠ 10 by decide)⟩, ⟨⟨show (5 : Nat) ≠ 10 by decide, Or.inl (show (5 : Nat) + 1 ≠ 10 by decide)⟩, ⟨⟨show (6 : Nat) ≠ 10 by decide, Or.inl (show (6 : Nat) + 1 ≠ 10 by decide)⟩, ⟨⟨show (7 : Nat) ≠ 10 by decide, Or.inl (show (7 : Nat) + 1 ≠ 10 by decide)⟩, ⟨⟨show (8 : Nat) ≠ 10 by decide, Or.inl (show (8 : Nat) + 1 ≠ 10 by decide)⟩, ⟨⟨show (9 : Nat) ≠ 10 by decide, Or.inr (vR_cat _ _)⟩, trivial⟩⟩⟩⟩⟩⟩⟩⟩⟩ rfl ?_
            refine j_goto (q := 510) hx (dc kL_told_4 16 rfl) (by decide) ?_
            exact j_back [1, 2, 3, 4, 5, 6, 7, 8, 9, 0] ((x10 + (1 : Int32)), h207) rfl rfl
        exact j_loop (S := (Int32 × Hp)) (lvf := fun s => [(0, vR x.2.2.2 x0), (2, .int x2), (3, vR x.2.2.2 x3), (4, .int x4), (5, vR x.2.2.2 x5), (6, vR x.2.2.2 x6), (7, .int x7), (8, .int x8), (9, vR x.2.2.2 x9), (10, .int s.1)]) (hpf := fun s => s.2) (f := (fun s : (Int32 × Hp) => mL_told_l510f x0 x2 x3 x4 x5 x6 x7 x8 x9 s.1 s.2)) (fun s => hB s.1 s.2) (x10, h)
      have hb444 : ∀ (x0 : Nat) (x2 : Int32) (x3 : Nat) (x4 : Int32) (x5 : Nat) (x6 : Nat) (t0 : Int32) (h : Hp), J x 444 [(0, vR x.2.2.2 x0), (2, .int x2), (3, vR x.2.2.2 x3), (4, .int x4), (5, vR x.2.2.2 x5), (6, vR x.2.2.2 x6)] [.int t0] h (mL_told_b444 x0 x2 x3 x4 x5 x6 t0 h) (TLo (S := (Int32 × Hp)) x 390 (fun s => [(0, vR x.2.2.2 x0), (2, .int x2), (3, vR x.2.2.2 x3), (4, .int s.1)]) [] (fun s => s.2) (fun r => r = u)) := by
        intro x0 x2 x3 x4 x5 x6 t0 h
        unfold mL_told_b444
        refine j_istore (q := 446) (i := 7) (l2 := [(0, vR x.2.2.2 x0), (2, .int x2), (3, vR x.2.2.2 x3), (4, .int x4), (5, vR x.2.2.2 x5), (6, vR x.2.2.2 x6)]) hx (dc kL_told_3 25 rfl) (hn 7 (by decide)) [0, 1, 2, 3, 4, 5] rfl ⟨⟨show (0 : Nat) ≠ 7 by decide, Or.inl (show (0 : Nat) + 1 ≠ 7 by decide)⟩, ⟨⟨show (2 : Nat) ≠ 7 by decide, Or.inl (show (2 : Nat) + 1 ≠ 7 by decide)⟩, ⟨⟨show (3 : Nat) ≠ 7 by decide, Or.inl (show (3 : Nat) + 1 ≠ 7 by decide)⟩, ⟨⟨show (4 : Nat) ≠ 7 by decide, Or.inl (show (4 : Nat) + 1 ≠ 7 by decide)⟩, ⟨⟨show (5 : Nat) ≠ 7 by decide, Or.inl (show (5 : Nat) + 1 ≠ 7 by decide)⟩, ⟨⟨show (6 : Nat) ≠ 7 by decide, Or.inr (vR_cat _ _)⟩, trivial⟩⟩⟩⟩⟩⟩ rfl ?_
        refine j_aload_n (q := 447) hx (dc kL_told_3 26 rfl) rfl 1 rfl rfl ?_
        refine j_sipush (q := 450) (v := (700 : Int32)) hx (dc kL_told_3 27 rfl) (by decide) rfl ?_
        refine w_cVIW (q := 453) (As := [.int (700 : Int32)]) (st := []) hx (dc kL_told_3 28 rfl) cf15 (by decide) rfl (cI _ my_L_draw lm_L_75 (by decide)) vs_L_draw rfl (fun u hu => sL_draw _ _ _ _ _ _ hu) (fun e => ite_ne (by unfold mL_draw at e; exact e)) (Nat.zero_le _) rfl (fun v58 h59 => ?_)
        refine j_istore (q := 455) (i := 8) (l2 := [(7, .int t0), (0, vR x.2.2.2 x0), (2, .int x2), (3, vR x.2.2.2 x3), (4, .int x4), (5, vR x.2.2.2 x5), (6, vR x.2.2.2 x6)]) hx (dc kL_told_3 29 rfl) (hn 8 (by decide)) [0, 1, 2, 3, 4, 5, 6] rfl ⟨⟨show (7 : Nat) ≠ 8 by decide, Or.inr rfl⟩, ⟨⟨show (0 : Nat) ≠ 8 by decide, Or.inl (show (0 : Nat) + 1 ≠ 8 by decide)⟩, ⟨⟨show (2 : Nat) ≠ 8 by decide, Or.inl (show (2 : Nat) + 1 ≠ 8 by decide)⟩, ⟨⟨show (3 : Nat) ≠ 8 by decide, Or.inl (show (3 : Nat) + 1 ≠ 8 by decide)⟩, ⟨⟨show (4 : Nat) ≠ 8 by decide, Or.inl (show (4 : Nat) + 1 ≠ 8 by decide)⟩, ⟨⟨show (5 : Nat) ≠ 8 by decide, Or.inl (show (5 : Nat) + 1 ≠ 8 by decide)⟩, ⟨⟨show (6 : Nat) ≠ 8 by decide, Or.inl (show (6 : Nat) + 1 ≠ 8 by decide)⟩, trivial⟩⟩⟩⟩⟩⟩⟩ rfl ?_
        refine j_new (q := 458) hx (dc kL_told_3 30 rfl) cf16 (by decide) nw_L_127 rfl (fun v61 hvv61 h60 => ?_)
        refine j_dup (q := 459) hx (dc kL_told_3 31 rfl) (vR_cat _ _) rfl ?_
        refine j_new (q := 462) hx (dc kL_told_3 32 rfl) cf16 (by decide) nw_L_127 rfl (fun v63 hvv63 h62 => ?_)
        refine j_dup (q := 463) hx (dc kL_told_3 33 rfl) (vR_cat _ _) rfl ?_
        refine w_cIVW (q := 466) (As := []) (st := [vR x.2.2.2 v63, vR x.2.2.2 v61, vR x.2.2.2 v61]) hx (dc kL_told_3 34 rfl) (cI _ my_J4_init_da8c8 lm_L_129 (by decide)) is_J4_init_da8c8 rfl rfl (fun u hu => sJ4_init_da8c8 hvv63 _ _ _ _ hu) hvv63 (sum_le (sum_R (sum_R (sum_R sum_nil))) (by decide)) rfl (fun h65 => ?_)
        refine j_ldcS (a := 15) (q := 468) hx (show (_, _, "count ", _) ∈ strs0 by decide +kernel) (dc kL_told_3 35 rfl) rfl ?_
        refine w_cVRW (q := 471) (As := [vR x.2.2.2 25]) (st := [vR x.2.2.2 v61, vR x.2.2.2 v61]) hx (dc kL_told_3 36 rfl) cf16 (by decide) rfl (cI _ my_J4_append_15ec4 lm_L_130 (by decide)) vs_J4_append_15ec4 rfl (fun u hu => sJ4_append_15ec4 _ _ _ _ _ _ hu) (fun e => ite_ne (by unfold mJ4_append_15ec4 at e; exact e)) (sum_le (sum_R (sum_R sum_nil)) (by decide)) rfl (fun v66 h67 => ?_)
        refine j_iload (q := 473) hx (dc kL_told_3 37 rfl) 5 rfl rfl ?_
        refine w_cSRW (q := 476) (As := [.int x4]) (st := [vR x.2.2.2 v66, vR x.2.2.2 v61, vR x.2.2.2 v61]) hx (dc kL_told_3 38 rfl) (cI _ my_L_count lm_L_202 (by decide)) st_L_count rfl (fun u hu => sL_count _ _ _ _ _ hu) (sum_le (sum_R (sum_R (sum_R sum_nil))) (by decide)) rfl (fun v68 h69 => ?_)
        refine w_cVRW (q := 479) (As := [vR x.2.2.2 v68]) (st := [vR x.2.2.2 v61, vR x.2.2.2 v61]) hx (dc kL_told_3 39 rfl) cf16 (by decide) rfl (cI _ my_J4_append_15ec4 lm_L_130 (by decide)) vs_J4_append_15ec4 rfl (fun u hu => sJ4_append_15ec4 _ _ _ _ _ _ hu) (fun e => ite_ne (by unfold mJ4_append_15ec4 at e; exact e)) (sum_le (sum_R (sum_R sum_nil)) (by decide)) rfl (fun v70 h71 => ?_)
        refine j_ldcS (a := 17) (q := 481) hx (show (_, _, " worth ", _) ∈ strs0 by decide +kernel) (dc kL_told_3 40 rfl) rfl ?_
        refine w_cVRW (q := 484) (As := [vR x.2.2.2 27]) (st := [vR x.2.2.2 v61, vR x.2.2.2 v61]) hx (dc kL_told_3 41 rfl) cf16 (by decide) rfl (cI _ my_J4_append_15ec4 lm_L_130 (by decide)) vs_J4_append_15ec4 rfl (fun u hu => sJ4_append_15ec4 _ _ _ _ _ _ hu) (fun e => ite_ne (by unfold mJ4_append_15ec4 at e; exact e)) (sum_le (sum_R (sum_R sum_nil)) (by decide)) rfl (fun v72 h73 => ?_)
        refine j_iload (q := 486) hx (dc kL_told_3 42 rfl) 1 rfl rfl ?_
        refine w_cVRW (q := 489) (As := [.int t0]) (st := [vR x.2.2.2 v61, vR x.2.2.2 v61]) hx (dc kL_told_3 43 rfl) cf16 (by decide) rfl (cI _ my_J4_append_bf812 lm_L_169 (by decide)) vs_J4_append_bf812 rfl (fun u hu => sJ4_append_bf812 _ _ _ _ _ _ hu) (fun e => ite_ne (by unfold mJ4_append_bf812 at e; exact e)) (sum_le (sum_R (sum_R sum_nil)) (by decide)) rfl (fun v74 h75 => ?_)
        refine j_ldcS (a := 18) (q := 491) hx (show (_, _, " arose ", _) ∈ strs0 by decide +kernel) (dc kL_told_3 44 rfl) rfl ?_
        refine w_cVRW (q := 494) (As := [vR x.2.2.2 28]) (st := [vR x.2.2.2 v61, vR x.2.2.2 v61]) hx (dc kL_told_3 45 rfl) cf16 (by decide) rfl (cI _ my_J4_append_15ec4 lm_L_130 (by decide)) vs_J4_append_15ec4 rfl (fun u hu => sJ4_append_15ec4 _ _ _ _ _ _ hu) (fun e => ite_ne (by unfold mJ4_append_15ec4 at e; exact e)) (sum_le (sum_R (sum_R sum_nil)) (by decide)) rfl (fun v76 h77 => ?_)
        refine j_iload (q := 496) hx (dc kL_told_3 46 rfl) 0 rfl rfl ?_
        refine w_cVRW (q := 499) (As := [.int v58]) (st := [vR x.2.2.2 v61, vR x.2.2.2 v61]) hx (dc kL_told_3 47 rfl) cf16 (by decide) rfl (cI _ my_J4_append_bf812 lm_L_169 (by decide)) vs_J4_append_bf812 rfl (fun u hu => sJ4_append_bf812 _ _ _ _ _ _ hu) (fun e => ite_ne (by unfold mJ4_append_bf812 at e; exact e)) (sum_le (sum_R (sum_R sum_nil)) (by decide)) rfl (fun v78 h79 => ?_)
        refine w_cVRW (q := 502) (As := []) (st := [vR x.2.2.2 v61, vR x.2.2.2 v61]) hx (dc kL_told_3 48 rfl) cf16 (by decide) rfl (cI _ my_J4_toString_0e30d lm_L_137 (by decide)) vs_J4_toString_0e30d rfl (fun u hu => sJ4_toString_0e30d _ _ _ _ _ hu) (fun e => ite_ne (by unfold mJ4_toString_0e30d at e; exact e)) (sum_le (sum_R (sum_R sum_nil)) (by decide)) rfl (fun v80 h81 => ?_)
        refine w_cIVW (q := 505) (As := [vR x.2.2.2 v80]) (st := [vR x.2.2.2 v61]) hx (dc kL_told_3 49 rfl) (cI _ my_J4_init_a7421 lm_L_150 (by decide)) is_J4_init_a7421 rfl rfl (fun u hu => sJ4_init_a7421 hvv61 _ _ _ _ _ hu) hvv61 (sum_le (sum_R sum_nil) (by decide)) rfl (fun h83 => ?_)
        refine j_astore (q := 507) (i := 9) (l2 := [(8, .int v58), (7, .int t0), (0, vR x.2.2.2 x0), (2, .int x2), (3, vR x.2.2.2 x3), (4, .int x4), (5, vR x.2.2.2 x5), (6, vR x.2.2.2 x6)]) hx (dc kL_told_3 50 rfl) (hn 9 (by decide)) [0, 1, 2, 3, 4, 5, 6, 7] rfl ⟨⟨show (8 : Nat) ≠ 9 by decide, Or.inr rfl⟩, ⟨⟨show (7 : Nat) ≠ 9 by decide, Or.inl (show (7 : Nat) + 1 ≠ 9 by decide)⟩, ⟨⟨show (0 : Nat) ≠ 9 by decide, Or.inl (show (0 : Nat) + 1 ≠ 9 by decide)⟩, ⟨⟨show (2 : Nat) ≠ 9 by decide, Or.inl (show (2 : Nat) + 1 ≠ 9 by decide)⟩, ⟨⟨show (3 : Nat) ≠ 9 by decide, Or.inl (show (3 : Nat) + 1 ≠ 9 by decide)⟩, ⟨⟨show (4 : Nat) ≠ 9 by decide, Or.inl (show (4 : Nat) + 1 ≠ 9 by decide)⟩, ⟨⟨show (5 : Nat) ≠ 9 by decide, Or.inl (show (5 : Nat) + 1 ≠ 9 by decide)⟩, ⟨⟨show (6 : Nat) ≠ 9 by decide, Or.inl (show (6 : Nat) + 1 ≠ 9 by decide)⟩, trivial⟩⟩⟩⟩⟩⟩⟩⟩ rfl ?_
        refine j_iconst (q := 508) (v := (0 : Int32)) hx (dc kL_told_3 51 rfl) (by decide) rfl ?_
        refine j_istore (q := 510) (i := 10) (l2 := [(9, vR x.2.2.2 v61), (8, .int v58), (7, .int t0), (0, vR x.2.2.2 x0), (2, .int x2), (3, vR x.2.2.2 x3), (4, .int x4), (5, vR x.2.2.2 x5), (6, vR x.2.2.2 x6)]) hx (dc kL_told_3 52 rfl) (hn 10 (by decide)) [0, 1, 2, 3, 4, 5, 6, 7, 8] rfl ⟨⟨show (9 : Nat) ≠ 10 by decide, Or.inr (vR_cat _ _)⟩, ⟨⟨show (8 : Nat) ≠ 10 by decide, Or.inl (show (8 : Nat) + 1 ≠ 10 by decide)⟩, ⟨⟨show (7 : Nat) ≠ 10 by decide, Or.inl (show (7 : Nat) + 1 ≠ 10 by decide)⟩, ⟨⟨show (0 : Nat) ≠ 10 by decide, Or.inl (show (0 : Nat) + 1 ≠ 10 by decide)⟩, ⟨⟨show (2 : Nat) ≠ 10 by decide, Or.inl (show (2 : Nat) + 1 ≠ 10 by decide)⟩, ⟨⟨show (3 : Nat) ≠ 10 by decide, Or.inl (show (3 : Nat) + 1 ≠ 10 by decide)⟩, ⟨⟨show (4 : Nat) ≠ 10 by decide, Or.inl (show (4 : Nat) + 1 ≠ 10 by decide)⟩, ⟨⟨show (5 : Nat) ≠ 10 by decide, Or.inl (show (5 : Nat) + 1 ≠ 10 by decide)⟩, ⟨⟨show (6 : Nat) ≠ 10 by decide, Or.inl (show (6 : Nat) + 1 ≠ 10 by decide)⟩, trivial⟩⟩⟩⟩⟩⟩⟩⟩⟩ rfl ?_
        exact j_sub [4, 5, 6, 7, 8, 9, 3, 2, 1, 0] rfl (hb510 x0 x2 x3 x4 x5 x6 t0 v58 v61 (0 : Int32) h83)
      unfold mL_told_l390f
      refine j_iload (q := 392) hx (dc kL_told_2 61 rfl) 3 rfl rfl ?_
      refine j_iload_n (q := 393) hx (dc kL_told_2 62 rfl) rfl 1 rfl rfl ?_
      refine j_icmp_geS (q := 396) (tgt := 947) hx (dc kL_told_2 63 rfl) (by decide) rfl ?_ ?_
      · refine j_exit ?_
        exact j_sub [0, 2] rfl (hb947 x0 x3 h)
      · refine j_iconst (q := 397) (v := (1 : Int32)) hx (dc kL_told_3 0 rfl) (by decide) rfl ?_
        refine j_aload_n (q := 398) hx (dc kL_told_3 1 rfl) rfl 0 rfl rfl ?_
        refine j_iconst (q := 399) (v := (3 : Int32)) hx (dc kL_told_3 2 rfl) (by decide) rfl ?_
        refine w_cVIW (q := 402) (As := [.int (3 : Int32)]) (st := [.int (1 : Int32)]) hx (dc kL_told_3 3 rfl) cf15 (by decide) rfl (cI _ my_L_draw lm_L_75 (by decide)) vs_L_draw rfl (fun u hu => sL_draw _ _ _ _ _ _ hu) (fun e => ite_ne (by unfold mL_draw at e; exact e)) (sum_le (sum_I sum_nil) (by decide)) rfl (fun v46 h47 => ?_)
        refine j_iadd (q := 403) hx (dc kL_told_3 4 rfl) rfl ?_
        refine j_anewarrayV73 (q := 406) hx (dc kL_told_3 5 rfl) na_L_78 rfl (fun v49 hvv49 h48 => ?_)
        refine j_astore (q := 408) (i := 5) (l2 := [(0, vR x.2.2.2 x0), (2, .int x2), (3, vR x.2.2.2 x3), (4, .int x4)]) hx (dc kL_told_3 6 rfl) (hn 5 (by decide)) [0, 1, 2, 3] rfl ⟨⟨show (0 : Nat) ≠ 5 by decide, Or.inl (show (0 : Nat) + 1 ≠ 5 by decide)⟩, ⟨⟨show (2 : Nat) ≠ 5 by decide, Or.inl (show (2 : Nat) + 1 ≠ 5 by decide)⟩, ⟨⟨show (3 : Nat) ≠ 5 by decide, Or.inl (show (3 : Nat) + 1 ≠ 5 by decide)⟩, ⟨⟨show (4 : Nat) ≠ 5 by decide, Or.inr rfl⟩, trivial⟩⟩⟩⟩ rfl ?_
        refine j_aload_n (q := 409) hx (dc kL_told_3 7 rfl) rfl 1 rfl rfl ?_
        refine j_iconst (q := 410) (v := (2 : Int32)) hx (dc kL_told_3 8 rfl) (by decide) rfl ?_
        refine w_cVIW (q := 413) (As := [.int (2 : Int32)]) (st := []) hx (dc kL_told_3 9 rfl) cf15 (by decide) rfl (cI _ my_L_draw lm_L_75 (by decide)) vs_L_draw rfl (fun u hu => sL_draw _ _ _ _ _ _ hu) (fun e => ite_ne (by unfold mL_draw at e; exact e)) (Nat.zero_le _) rfl (fun v50 h51 => ?_)
        refine j_anewarrayV73 (q := 416) hx (dc kL_told_3 10 rfl) na_L_78 rfl (fun v53 hvv53 h52 => ?_)
        refine j_astore (q := 418) (i := 6) (l2 := [(5, vR x.2.2.2 v49), (0, vR x.2.2.2 x0), (2, .int x2), (3, vR x.2.2.2 x3), (4, .int x4)]) hx (dc kL_told_3 11 rfl) (hn 6 (by decide)) [0, 1, 2, 3, 4] rfl ⟨⟨show (5 : Nat) ≠ 6 by decide, Or.inr (vR_cat _ _)⟩, ⟨⟨show (0 : Nat) ≠ 6 by decide, Or.inl (show (0 : Nat) + 1 ≠ 6 by decide)⟩, ⟨⟨show (2 : Nat) ≠ 6 by decide, Or.inl (show (2 : Nat) + 1 ≠ 6 by decide)⟩, ⟨⟨show (3 : Nat) ≠ 6 by decide, Or.inl (show (3 : Nat) + 1 ≠ 6 by decide)⟩, ⟨⟨show (4 : Nat) ≠ 6 by decide, Or.inl (show (4 : Nat) + 1 ≠ 6 by decide)⟩, trivial⟩⟩⟩⟩⟩ rfl ?_
        refine j_aload_n (q := 419) hx (dc kL_told_3 12 rfl) rfl 2 rfl rfl ?_
        refine j_iconst (q := 420) (v := (2 : Int32)) hx (dc kL_told_3 13 rfl) (by decide) rfl ?_
        refine w_cVIW (q := 423) (As := [.int (2 : Int32)]) (st := []) hx (dc kL_told_3 14 rfl) cf15 (by decide) rfl (cI _ my_L_draw lm_L_75 (by decide)) vs_L_draw rfl (fun u hu => sL_draw _ _ _ _ _ _ hu) (fun e => ite_ne (by unfold mL_draw at e; exact e)) (Nat.zero_le _) rfl (fun v54 h55 => ?_)
        refine j_if_neS (q := 426) (tgt := 437) hx (dc kL_told_3 15 rfl) (by decide) rfl ?_ ?_
        · refine j_aload_n (q := 438) hx (dc kL_told_3 22 rfl) rfl 2 rfl rfl ?_
          refine j_sipush (q := 441) (v := (1000 : Int32)) hx (dc kL_told_3 23 rfl) (by decide) rfl ?_
          refine w_cVIW (q := 444) (As := [.int (1000 : Int32)]) (st := []) hx (dc kL_told_3 24 rfl) cf15 (by decide) rfl (cI _ my_L_draw lm_L_75 (by decide)) vs_L_draw rfl (fun u hu => sL_draw _ _ _ _ _ _ hu) (fun e => ite_ne (by unfold mL_draw at e; exact e)) (Nat.zero_le _) rfl (fun v56 h57 => ?_)
          exact j_sub [2, 3, 4, 5, 1, 0] rfl (hb444 x0 x2 x3 x4 v49 v53 v56 h57)
        · refine j_bipush (q := 428) (v := (10 : Int32)) hx (dc kL_told_3 16 rfl) (by decide) rfl ?_
          refine j_aload_n (q := 429) hx (dc kL_told_3 17 rfl) rfl 2 rfl rfl ?_
          refine j_iconst (q := 430) (v := (4 : Int32)) hx (dc kL_told_3 18 rfl) (by decide) rfl ?_
          refine w_cVIW (q := 433) (As := [.int (4 : Int32)]) (st := [.int (10 : Int32)]) hx (dc kL_told_3 19 rfl) cf15 (by decide) rfl (cI _ my_L_draw lm_L_75 (by decide)) vs_L_draw rfl (fun u hu => sL_draw _ _ _ _ _ _ hu) (fun e => ite_ne (by unfold mL_draw at e; exact e)) (sum_le (sum_I sum_nil) (by decide)) rfl (fun v208 h209 => ?_)
          refine j_imul (q := 434) hx (dc kL_told_3 20 rfl) rfl ?_
          refine j_goto (q := 444) hx (dc kL_told_3 21 rfl) (by decide) ?_
          exact j_sub [2, 3, 4, 5, 1, 0] rfl (hb444 x0 x2 x3 x4 v49 v53 ((10 : Int32) * v208) h209)
    exact j_loop (S := (Int32 × Hp)) (lvf := fun s => [(0, vR x.2.2.2 x0), (2, .int x2), (3, vR x.2.2.2 x3), (4, .int s.1)]) (hpf := fun s => s.2) (f := (fun s : (Int32 × Hp) => mL_told_l390f x0 x2 x3 s.1 s.2)) (fun s => hB s.1 s.2) (x4, h)
  have hb387 : ∀ (x0 : Nat) (x2 : Int32) (x3 : Nat) (h : Hp), J x 387 [(0, vR x.2.2.2 x0), (2, .int x2), (3, vR x.2.2.2 x3)] [] h (mL_told_b387 x0 x2 x3 h) (fun r => r = u) := by
    intro x0 x2 x3 h
    unfold mL_told_b387
    refine j_iconst (q := 388) (v := (0 : Int32)) hx (dc kL_told_2 59 rfl) (by decide) rfl ?_
    refine j_istore (q := 390) (i := 4) (l2 := [(0, vR x.2.2.2 x0), (2, .int x2), (3, vR x.2.2.2 x3)]) hx (dc kL_told_2 60 rfl) (hn 4 (by decide)) [0, 1, 2] rfl ⟨⟨show (0 : Nat) ≠ 4 by decide, Or.inl (show (0 : Nat) + 1 ≠ 4 by decide)⟩, ⟨⟨show (2 : Nat) ≠ 4 by decide, Or.inl (show (2 : Nat) + 1 ≠ 4 by decide)⟩, ⟨⟨show (3 : Nat) ≠ 4 by decide, Or.inr (vR_cat _ _)⟩, trivial⟩⟩⟩ rfl ?_
    exact j_sub [1, 2, 3, 0] rfl (hb390 x0 x2 x3 (0 : Int32) h)
  have hb231 : ∀ (x0 : Nat) (x2 : Int32) (x3 : Nat) (x4 : Int32) (h : Hp), J x 231 [(0, vR x.2.2.2 x0), (2, .int x2), (3, vR x.2.2.2 x3), (4, .int x4)] [] h (mL_told_l231 x0 x2 x3 x4 h) (fun r => r = u) := by
    intro x0 x2 x3 x4 h
    have hB : ∀ (x4 : Int32) (h : Hp), J x 231 [(0, vR x.2.2.2 x0), (2, .int x2), (3, vR x.2.2.2 x3), (4, .int x4)] [] h (mL_told_l231f x0 x2 x3 x4 h) (TLo (S := (Int32 × Hp)) x 231 (fun s => [(0, vR x.2.2.2 x0), (2, .int x2), (3, vR x.2.2.2 x3), (4, .int s.1)]) [] (fun s => s.2) (fun r => r = u)) := by
      intro x4 h
      have hb332 : ∀ (x0 : Nat) (x2 : Int32) (x3 : Nat) (x4 : Int32) (h : Hp), J x 332 [(0, vR x.2.2.2 x0), (2, .int x2), (3, vR x.2.2.2 x3), (4, .int x4)] [] h (mL_told_b332 x0 x2 x3 x4 h) (TLo (S := (Int32 × Hp)) x 231 (fun s => [(0, vR x.2.2.2 x0), (2, .int x2), (3, vR x.2.2.2 x3), (4, .int s.1)]) [] (fun s => s.2) (fun r => r = u)) := by
        intro x0 x2 x3 x4 h
        unfold mL_told_b332
        refine j_iinc (q := 335) (l2 := [(0, vR x.2.2.2 x0), (2, .int x2), (3, vR x.2.2.2 x3)]) hx (dc kL_told_2 33 rfl) 3 rfl (v := (-1 : Int32)) (by decide) (hn 4 (by decide)) [0, 1, 2] rfl ⟨⟨show (0 : Nat) ≠ 4 by decide, Or.inl (show (0 : Nat) + 1 ≠ 4 by decide)⟩, ⟨⟨show (2 : Nat) ≠ 4 by decide, Or.inl (show (2 : Nat) + 1 ≠ 4 by decide)⟩, ⟨⟨show (3 : Nat) ≠ 4 by decide, Or.inr (vR_cat _ _)⟩, trivial⟩⟩⟩ rfl ?_
        refine j_goto (q := 231) hx (dc kL_told_2 34 rfl) (by decide) ?_
        exact j_back [1, 2, 3, 0] ((x4 + (-1 : Int32)), h) rfl rfl
      have hb315 : ∀ (x0 : Nat) (x2 : Int32) (x3 : Nat) (x4 : Int32) (h : Hp), J x 315 [(0, vR x.2.2.2 x0), (2, .int x2), (3, vR x.2.2.2 x3), (4, .int x4)] [] h (mL_told_b315 x0 x2 x3 x4 h) (TLo (S := (Int32 × Hp)) x 231 (fun s => [(0, vR x.2.2.2 x0), (2, .int x2), (3, vR x.2.2.2 x3), (4, .int s.1)]) [] (fun s => s.2) (fun r => r = u)) := by
        intro x0 x2 x3 x4 h
        unfold mL_told_b315
        refine j_aload_n (q := 316) hx (dc kL_told_2 24 rfl) rfl 0 rfl rfl ?_
        refine w_gR (q := 319) hx (dc kL_told_2 25 rfl) ff_L_7 lk_L_23 rfl (fun v234 => ?_)
        refine j_aload_n (q := 320) hx (dc kL_told_2 26 rfl) rfl 0 rfl rfl ?_
        refine w_gR (q := 323) hx (dc kL_told_2 27 rfl) ff_L_7 lk_L_23 rfl (fun v235 => ?_)
        refine w_cVIR (q := 326) (As := []) (st := [vR x.2.2.2 v234]) hx (dc kL_told_2 28 rfl) cf18 (by decide) rfl (cI _ my_Jx4a65c_size_8abf5 lm_L_185 (by decide)) vs_Jx4a65c_size_8abf5 rfl (fun u hu => sJx4a65c_size_8abf5 _ _ _ _ _ hu) (fun e => ite_ne (by unfold mJx4a65c_size_8abf5 at e; exact e)) (sum_le (sum_R sum_nil) (by decide)) rfl (fun v236 => ?_)
        refine j_iconst (q := 327) (v := (1 : Int32)) hx (dc kL_told_2 29 rfl) (by decide) rfl ?_
        refine j_isub (q := 328) hx (dc kL_told_2 30 rfl) rfl ?_
        refine w_cVRW (q := 331) (As := [.int (v236 - (1 : Int32))]) (st := []) hx (dc kL_told_2 31 rfl) cf18 (by decide) rfl (cI _ my_Jx4a65c_remove_915e3 lm_L_195 (by decide)) vs_Jx4a65c_remove_915e3 rfl (fun u hu => sJx4a65c_remove_915e3 _ _ _ _ _ _ hu) (fun e => ite_ne (by unfold mJx4a65c_remove_915e3 at e; exact e)) (Nat.zero_le _) rfl (fun v238 h239 => ?_)
        refine j_pop (q := 332) hx (dc kL_told_2 32 rfl) (vR_cat _ _) rfl ?_
        exact hb332 x0 x2 x3 x4 h239
      unfold mL_told_l231f
      refine j_iload (q := 233) hx (dc kL_told_1 50 rfl) 3 rfl rfl ?_
      refine j_if_leS (q := 236) (tgt := 338) hx (dc kL_told_1 51 rfl) (by decide) rfl ?_ ?_
      · refine j_exit ?_
        refine j_aload_n (q := 339) hx (dc kL_told_2 35 rfl) rfl 0 rfl rfl ?_
        refine j_iconst (q := 340) (v := (2 : Int32)) hx (dc kL_told_2 36 rfl) (by decide) rfl ?_
        refine w_cVIW (q := 343) (As := [.int (2 : Int32)]) (st := []) hx (dc kL_told_2 37 rfl) cf15 (by decide) rfl (cI _ my_L_draw lm_L_75 (by decide)) vs_L_draw rfl (fun u hu => sL_draw _ _ _ _ _ _ hu) (fun e => ite_ne (by unfold mL_draw at e; exact e)) (Nat.zero_le _) rfl (fun v27 h28 => ?_)
        refine j_if_neS (q := 346) (tgt := 387) hx (dc kL_told_2 38 rfl) (by decide) rfl ?_ ?_
        · exact j_sub [0, 1, 2] rfl (hb387 x0 x2 x3 h28)
        · refine j_aload_n (q := 347) hx (dc kL_told_2 39 rfl) rfl 0 rfl rfl ?_
          refine j_iconst (q := 348) (v := (1 : Int32)) hx (dc kL_told_2 40 rfl) (by decide) rfl ?_
          refine j_aload_n (q := 349) hx (dc kL_told_2 41 rfl) rfl 0 rfl rfl ?_
          refine j_sipush (q := 352) (v := (600 : Int32)) hx (dc kL_told_2 42 rfl) (by decide) rfl ?_
          refine w_cVIW (q := 355) (As := [.int (600 : Int32)]) (st := [.int (1 : Int32), vR x.2.2.2 x0]) hx (dc kL_told_2 43 rfl) cf15 (by decide) rfl (cI _ my_L_draw lm_L_75 (by decide)) vs_L_draw rfl (fun u hu => sL_draw _ _ _ _ _ _ hu) (fun e => ite_ne (by unfold mL_draw at e; exact e)) (sum_le (sum_I (sum_R sum_nil)) (by decide)) rfl (fun v210 h211 => ?_)
          refine j_iadd (q := 356) hx (dc kL_told_2 44 rfl) rfl ?_
          refine w_sI (q := 359) hx (dc kL_told_2 45 rfl) ff_L_4 rfl lk_L_153 (Or.inl rfl) rfl (fun h212 => ?_)
          refine j_aload_n (q := 360) hx (dc kL_told_2 46 rfl) rfl 0 rfl rfl ?_
          refine j_aload_n (q := 361) hx (dc kL_told_2 47 rfl) rfl 2 rfl rfl ?_
          refine j_new (q := 364) hx (dc kL_told_2 48 rfl) cf16 (by decide) nw_L_127 rfl (fun v214 hvv214 h213 => ?_)
          refine j_dup (q := 365) hx (dc kL_told_2 49 rfl) (vR_cat _ _) rfl ?_
          refine w_cIVW (q := 368) (As := []) (st := [vR x.2.2.2 v214, vR x.2.2.2 x3, vR x.2.2.2 x0]) hx (dc kL_told_2 50 rfl) (cI _ my_J4_init_da8c8 lm_L_129 (by decide)) is_J4_init_da8c8 rfl rfl (fun u hu => sJ4_init_da8c8 hvv214 _ _ _ _ hu) hvv214 (sum_le (sum_R (sum_R (sum_R sum_nil))) (by decide)) rfl (fun h216 => ?_)
          refine j_ldcS (a := 14) (q := 370) hx (show (_, _, "limit ", _) ∈ strs0 by decide +kernel) (dc kL_told_2 51 rfl) rfl ?_
          refine w_cVRW (q := 373) (As := [vR x.2.2.2 24]) (st := [vR x.2.2.2 x3, vR x.2.2.2 x0]) hx (dc kL_told_2 52 rfl) cf16 (by decide) rfl (cI _ my_J4_append_15ec4 lm_L_130 (by decide)) vs_J4_append_15ec4 rfl (fun u hu => sJ4_append_15ec4 _ _ _ _ _ _ hu) (fun e => ite_ne (by unfold mJ4_append_15ec4 at e; exact e)) (sum_le (sum_R (sum_R sum_nil)) (by decide)) rfl (fun v217 h218 => ?_)
          refine j_aload_n (q := 374) hx (dc kL_told_2 53 rfl) rfl 0 rfl rfl ?_
          refine w_gI (q := 377) hx (dc kL_told_2 54 rfl) ff_L_4 lk_L_153 rfl (fun v219 => ?_)
          refine w_cVRW (q := 380) (As := [.int v219]) (st := [vR x.2.2.2 x3, vR x.2.2.2 x0]) hx (dc kL_told_2 55 rfl) cf16 (by decide) rfl (cI _ my_J4_append_bf812 lm_L_169 (by decide)) vs_J4_append_bf812 rfl (fun u hu => sJ4_append_bf812 _ _ _ _ _ _ hu) (fun e => ite_ne (by unfold mJ4_append_bf812 at e; exact e)) (sum_le (sum_R (sum_R sum_nil)) (by decide)) rfl (fun v220 h221 => ?_)
          refine w_cVRW (q := 383) (As := []) (st := [vR x.2.2.2 x3, vR x.2.2.2 x0]) hx (dc kL_told_2 56 rfl) cf16 (by decide) rfl (cI _ my_J4_toString_0e30d lm_L_137 (by decide)) vs_J4_toString_0e30d rfl (fun u hu => sJ4_toString_0e30d _ _ _ _ _ hu) (fun e => ite_ne (by unfold mJ4_toString_0e30d at e; exact e)) (sum_le (sum_R (sum_R sum_nil)) (by decide)) rfl (fun v222 h223 => ?_)
          refine w_cVIW (q := 386) (As := [vR x.2.2.2 x3, vR x.2.2.2 v222]) (st := []) hx (dc kL_told_2 57 rfl) cf15 (by decide) rfl (cI _ my_L_fits lm_L_172 (by decide)) vs_L_fits rfl (fun u hu => sL_fits _ _ _ _ _ _ _ hu) (fun e => ite_ne (by unfold mL_fits at e; exact e)) (Nat.zero_le _) rfl (fun v224 h225 => ?_)
          refine j_pop (q := 387) hx (dc kL_told_2 58 rfl) rfl rfl ?_
          exact j_sub [0, 1, 2] rfl (hb387 x0 x2 x3 h225)
      · refine j_aload_n (q := 237) hx (dc kL_told_1 52 rfl) rfl 0 rfl rfl ?_
        refine w_gR (q := 240) hx (dc kL_told_1 53 rfl) ff_L_7 lk_L_23 rfl (fun v226 => ?_)
        refine j_aload_n (q := 241) hx (dc kL_told_1 54 rfl) rfl 0 rfl rfl ?_
        refine j_aload_n (q := 242) hx (dc kL_told_1 55 rfl) rfl 0 rfl rfl ?_
        refine w_gI (q := 245) hx (dc kL_told_1 56 rfl) ff_L_3 lk_L_87 rfl (fun v227 => ?_)
        refine j_iconst (q := 246) (v := (2 : Int32)) hx (dc kL_told_1 57 rfl) (by decide) rfl ?_
        refine w_cVRW (q := 249) (As := [.int v227, .int (2 : Int32)]) (st := [vR x.2.2.2 v226]) hx (dc kL_told_1 58 rfl) cf15 (by decide) rfl (cI _ my_L_said lm_L_83 (by decide)) vs_L_said rfl (fun u hu => sL_said 40 _ _ _ _ _ _ _ hu) (kL_said 40 _ _ _ _) (sum_le (sum_R sum_nil) (by decide)) rfl (fun v228 h229 => ?_)
        refine w_cVIW (q := 252) (As := [vR x.2.2.2 v228]) (st := []) hx (dc kL_told_1 59 rfl) cf18 (by decide) rfl (cI _ my_Jx4a65c_add_9ea2d lm_L_176 (by decide)) vs_Jx4a65c_add_9ea2d rfl (fun u hu => sJx4a65c_add_9ea2d _ _ _ _ _ _ hu) (fun e => ite_ne (by unfold mJx4a65c_add_9ea2d at e; exact e)) (Nat.zero_le _) rfl (fun v230 h231 => ?_)
        refine j_pop (q := 253) hx (dc kL_told_1 60 rfl) rfl rfl ?_
        refine j_aload_n (q := 254) hx (dc kL_told_1 61 rfl) rfl 0 rfl rfl ?_
        refine w_cVIW (q := 257) (As := []) (st := []) hx (dc kL_told_1 62 rfl) cf15 (by decide) rfl (cI _ my_L_some lm_L_180 (by decide)) vs_L_some rfl (fun u hu => sL_some _ _ _ _ _ hu) (fun e => ite_ne (by unfold mL_some at e; exact e)) (Nat.zero_le _) rfl (fun v232 h233 => ?_)
        refine j_if_eq (q := 260) (tgt := 315) hx (dc kL_told_1 63 rfl) (by decide) Iff.rfl rfl ?_ ?_
        · exact hb315 x0 x2 x3 x4 h233
        · refine j_aload_n (q := 261) hx (dc kL_told_2 0 rfl) rfl 0 rfl rfl ?_
          refine j_aload_n (q := 262) hx (dc kL_told_2 1 rfl) rfl 2 rfl rfl ?_
          refine j_new (q := 265) hx (dc kL_told_2 2 rfl) cf16 (by decide) nw_L_127 rfl (fun v241 hvv241 h240 => ?_)
          refine j_dup (q := 266) hx (dc kL_told_2 3 rfl) (vR_cat _ _) rfl ?_
          refine w_cIVW (q := 269) (As := []) (st := [vR x.2.2.2 v241, vR x.2.2.2 x3, vR x.2.2.2 x0]) hx (dc kL_told_2 4 rfl) (cI _ my_J4_init_da8c8 lm_L_129 (by decide)) is_J4_init_da8c8 rfl rfl (fun u hu => sJ4_init_da8c8 hvv241 _ _ _ _ hu) hvv241 (sum_le (sum_R (sum_R (sum_R sum_nil))) (by decide)) rfl (fun h243 => ?_)
          refine j_ldcS (a := 6) (q := 271) hx (show (_, _, "never ", _) ∈ strs0 by decide +kernel) (dc kL_told_2 5 rfl) rfl ?_
          refine w_cVRW (q := 274) (As := [vR x.2.2.2 16]) (st := [vR x.2.2.2 x3, vR x.2.2.2 x0]) hx (dc kL_told_2 6 rfl) cf16 (by decide) rfl (cI _ my_J4_append_15ec4 lm_L_130 (by decide)) vs_J4_append_15ec4 rfl (fun u hu => sJ4_append_15ec4 _ _ _ _ _ _ hu) (fun e => ite_ne (by unfold mJ4_append_15ec4 at e; exact e)) (sum_le (sum_R (sum_R sum_nil)) (by decide)) rfl (fun v244 h245 => ?_)
          refine j_aload_n (q := 275) hx (dc kL_told_2 7 rfl) rfl 0 rfl rfl ?_
          refine w_cVRW (q := 278) (As := []) (st := [vR x.2.2.2 v244, vR x.2.2.2 x3, vR x.2.2.2 x0]) hx (dc kL_told_2 8 rfl) cf15 (by decide) rfl (cI _ my_L_gap lm_L_144 (by decide)) vs_L_gap rfl (fun u hu => sL_gap _ _ _ _ _ hu) (fun e => ite_ne (by unfold mL_gap at e; exact e)) (sum_le (sum_R (sum_R (sum_R sum_nil))) (by decide)) rfl (fun v246 h247 => ?_)
          refine w_cVRW (q := 281) (As := [vR x.2.2.2 v246]) (st := [vR x.2.2.2 x3, vR x.2.2.2 x0]) hx (dc kL_told_2 9 rfl) cf16 (by decide) rfl (cI _ my_J4_append_15ec4 lm_L_130 (by decide)) vs_J4_append_15ec4 rfl (fun u hu => sJ4_append_15ec4 _ _ _ _ _ _ hu) (fun e => ite_ne (by unfold mJ4_append_15ec4 at e; exact e)) (sum_le (sum_R (sum_R sum_nil)) (by decide)) rfl (fun v248 h249 => ?_)
          refine j_aload_n (q := 282) hx (dc kL_told_2 10 rfl) rfl 0 rfl rfl ?_
          refine w_gR (q := 285) hx (dc kL_told_2 11 rfl) ff_L_7 lk_L_23 rfl (fun v250 => ?_)
          refine j_aload_n (q := 286) hx (dc kL_told_2 12 rfl) rfl 0 rfl rfl ?_
          refine w_gR (q := 289) hx (dc kL_told_2 13 rfl) ff_L_7 lk_L_23 rfl (fun v251 => ?_)
          refine w_cVIR (q := 292) (As := []) (st := [vR x.2.2.2 v250, vR x.2.2.2 v248, vR x.2.2.2 x3, vR x.2.2.2 x0]) hx (dc kL_told_2 14 rfl) cf18 (by decide) rfl (cI _ my_Jx4a65c_size_8abf5 lm_L_185 (by decide)) vs_Jx4a65c_size_8abf5 rfl (fun u hu => sJx4a65c_size_8abf5 _ _ _ _ _ hu) (fun e => ite_ne (by unfold mJx4a65c_size_8abf5 at e; exact e)) (sum_le (sum_R (sum_R (sum_R (sum_R sum_nil)))) (by decide)) rfl (fun v252 => ?_)
          refine j_iconst (q := 293) (v := (1 : Int32)) hx (dc kL_told_2 15 rfl) (by decide) rfl ?_
          refine j_isub (q := 294) hx (dc kL_told_2 16 rfl) rfl ?_
          refine w_cVRR (q := 297) (As := [.int (v252 - (1 : Int32))]) (st := [vR x.2.2.2 v248, vR x.2.2.2 x3, vR x.2.2.2 x0]) hx (dc kL_told_2 17 rfl) cf18 (by decide) rfl (cI _ my_Jx4a65c_get_915e3 lm_L_188 (by decide)) vs_Jx4a65c_get_915e3 rfl (fun u hu => sJx4a65c_get_915e3 _ _ _ _ _ _ hu) (fun e => ite_ne (by unfold mJx4a65c_get_915e3 at e; exact e)) (sum_le (sum_R (sum_R (sum_R sum_nil))) (by decide)) rfl (fun v254 => ?_)
          refine j_ckC (q := 300) hx (dc kL_told_2 18 rfl) cl_L_78 cf13 (by decide) rfl ?_
          refine w_cVRW (q := 303) (As := []) (st := [vR x.2.2.2 v248, vR x.2.2.2 x3, vR x.2.2.2 x0]) hx (dc kL_told_2 19 rfl) cf13 (by decide) rfl (cI _ my_X13_all lm_L_192 (by decide)) vs_X13_all rfl (fun u hu => sX13_all 40 _ _ _ _ _ hu) (kX13_all 40 _ _) (sum_le (sum_R (sum_R (sum_R sum_nil))) (by decide)) rfl (fun v256 h257 => ?_)
          refine w_cVRW (q := 306) (As := [vR x.2.2.2 v256]) (st := [vR x.2.2.2 x3, vR x.2.2.2 x0]) hx (dc kL_told_2 20 rfl) cf16 (by decide) rfl (cI _ my_J4_append_15ec4 lm_L_130 (by decide)) vs_J4_append_15ec4 rfl (fun u hu => sJ4_append_15ec4 _ _ _ _ _ _ hu) (fun e => ite_ne (by unfold mJ4_append_15ec4 at e; exact e)) (sum_le (sum_R (sum_R sum_nil)) (by decide)) rfl (fun v258 h259 => ?_)
          refine w_cVRW (q := 309) (As := []) (st := [vR x.2.2.2 x3, vR x.2.2.2 x0]) hx (dc kL_told_2 21 rfl) cf16 (by decide) rfl (cI _ my_J4_toString_0e30d lm_L_137 (by decide)) vs_J4_toString_0e30d rfl (fun u hu => sJ4_toString_0e30d _ _ _ _ _ hu) (fun e => ite_ne (by unfold mJ4_toString_0e30d at e; exact e)) (sum_le (sum_R (sum_R sum_nil)) (by decide)) rfl (fun v260 h261 => ?_)
          refine w_cVIW (q := 312) (As := [vR x.2.2.2 x3, vR x.2.2.2 v260]) (st := []) hx (dc kL_told_2 22 rfl) cf15 (by decide) rfl (cI _ my_L_fits lm_L_172 (by decide)) vs_L_fits rfl (fun u hu => sL_fits _ _ _ _ _ _ _ hu) (fun e => ite_ne (by unfold mL_fits at e; exact e)) (Nat.zero_le _) rfl (fun v262 h263 => ?_)
          refine j_if_neS (q := 315) (tgt := 332) hx (dc kL_told_2 23 rfl) (by decide) rfl ?_ ?_
          · exact hb332 x0 x2 x3 x4 h263
          · exact hb315 x0 x2 x3 x4 h263
    exact j_loop (S := (Int32 × Hp)) (lvf := fun s => [(0, vR x.2.2.2 x0), (2, .int x2), (3, vR x.2.2.2 x3), (4, .int s.1)]) (hpf := fun s => s.2) (f := (fun s : (Int32 × Hp) => mL_told_l231f x0 x2 x3 s.1 s.2)) (fun s => hB s.1 s.2) (x4, h)
  have hb109 : ∀ (x0 : Nat) (x2 : Int32) (x3 : Nat) (x4 : Int32) (h : Hp), J x 109 [(0, vR x.2.2.2 x0), (2, .int x2), (3, vR x.2.2.2 x3), (4, .int x4)] [] h (mL_told_l109 x0 x2 x3 x4 h) (fun r => r = u) := by
    intro x0 x2 x3 x4 h
    have hB : ∀ (x4 : Int32) (h : Hp), J x 109 [(0, vR x.2.2.2 x0), (2, .int x2), (3, vR x.2.2.2 x3), (4, .int x4)] [] h (mL_told_l109f x0 x2 x3 x4 h) (TLo (S := (Int32 × Hp)) x 109 (fun s => [(0, vR x.2.2.2 x0), (2, .int x2), (3, vR x.2.2.2 x3), (4, .int s.1)]) [] (fun s => s.2) (fun r => r = u)) := by
      intro x4 h
      have hb208 : ∀ (x0 : Nat) (x2 : Int32) (x3 : Nat) (x4 : Int32) (t0 : Nat) (t1 : Nat) (t2 : Nat) (t3 : Nat) (h : Hp), J x 208 [(0, vR x.2.2.2 x0), (2, .int x2), (3, vR x.2.2.2 x3), (4, .int x4)] [vR x.2.2.2 t3, vR x.2.2.2 t2, vR x.2.2.2 t1, vR x.2.2.2 t0] h (mL_told_b208 x0 x2 x3 x4 t0 t1 t2 t3 h) (TLo (S := (Int32 × Hp)) x 109 (fun s => [(0, vR x.2.2.2 x0), (2, .int x2), (3, vR x.2.2.2 x3), (4, .int s.1)]) [] (fun s => s.2) (fun r => r = u)) := by
        intro x0 x2 x3 x4 t0 t1 t2 t3 h
        unfold mL_told_b208
        refine w_cVRW (q := 211) (As := [vR x.2.2.2 t3]) (st := [vR x.2.2.2 t1, vR x.2.2.2 t0]) hx (dc kL_told_1 40 rfl) cf16 (by decide) rfl (cI _ my_J4_append_15ec4 lm_L_130 (by decide)) vs_J4_append_15ec4 rfl (fun u hu => sJ4_append_15ec4 _ _ _ _ _ _ hu) (fun e => ite_ne (by unfold mJ4_append_15ec4 at e; exact e)) (sum_le (sum_R (sum_R sum_nil)) (by decide)) rfl (fun v294 h295 => ?_)
        refine w_cVRW (q := 214) (As := []) (st := [vR x.2.2.2 t1, vR x.2.2.2 t0]) hx (dc kL_told_1 41 rfl) cf16 (by decide) rfl (cI _ my_J4_toString_0e30d lm_L_137 (by decide)) vs_J4_toString_0e30d rfl (fun u hu => sJ4_toString_0e30d _ _ _ _ _ hu) (fun e => ite_ne (by unfold mJ4_toString_0e30d at e; exact e)) (sum_le (sum_R (sum_R sum_nil)) (by decide)) rfl (fun v296 h297 => ?_)
        refine w_cVIW (q := 217) (As := [vR x.2.2.2 t1, vR x.2.2.2 v296]) (st := []) hx (dc kL_told_1 42 rfl) cf15 (by decide) rfl (cI _ my_L_fits lm_L_172 (by decide)) vs_L_fits rfl (fun u hu => sL_fits _ _ _ _ _ _ _ hu) (fun e => ite_ne (by unfold mL_fits at e; exact e)) (Nat.zero_le _) rfl (fun v298 h299 => ?_)
        refine j_pop (q := 218) hx (dc kL_told_1 43 rfl) rfl rfl ?_
        refine j_iinc (q := 221) (l2 := [(0, vR x.2.2.2 x0), (2, .int x2), (3, vR x.2.2.2 x3)]) hx (dc kL_told_1 44 rfl) 3 rfl (v := (1 : Int32)) (by decide) (hn 4 (by decide)) [0, 1, 2] rfl ⟨⟨show (0 : Nat) ≠ 4 by decide, Or.inl (show (0 : Nat) + 1 ≠ 4 by decide)⟩, ⟨⟨show (2 : Nat) ≠ 4 by decide, Or.inl (show (2 : Nat) + 1 ≠ 4 by decide)⟩, ⟨⟨show (3 : Nat) ≠ 4 by decide, Or.inr (vR_cat _ _)⟩, trivial⟩⟩⟩ rfl ?_
        refine j_goto (q := 109) hx (dc kL_told_1 45 rfl) (by decide) ?_
        exact j_back [1, 2, 3, 0] ((x4 + (1 : Int32)), h299) rfl rfl
      have hb144 : ∀ (x0 : Nat) (x2 : Int32) (x3 : Nat) (x4 : Int32) (t0 : Nat) (t1 : Int32) (t2 : Int32) (h : Hp), J x 144 [(0, vR x.2.2.2 x0), (2, .int x2), (3, vR x.2.2.2 x3), (4, .int x4)] [.int t2, .int t1, vR x.2.2.2 t0] h (mL_told_b144 x0 x2 x3 x4 t0 t1 t2 h) (TLo (S := (Int32 × Hp)) x 109 (fun s => [(0, vR x.2.2.2 x0), (2, .int x2), (3, vR x.2.2.2 x3), (4, .int s.1)]) [] (fun s => s.2) (fun r => r = u)) := by
        intro x0 x2 x3 x4 t0 t1 t2 h
        unfold mL_told_b144
        refine w_stI (q := 145) hx (dc kL_told_1 10 rfl) rfl (fun h269 => ?_)
        refine j_aload_n (q := 146) hx (dc kL_told_1 11 rfl) rfl 0 rfl rfl ?_
        refine j_aload_n (q := 147) hx (dc kL_told_1 12 rfl) rfl 2 rfl rfl ?_
        refine j_new (q := 150) hx (dc kL_told_1 13 rfl) cf16 (by decide) nw_L_127 rfl (fun v271 hvv271 h270 => ?_)
        refine j_dup (q := 151) hx (dc kL_told_1 14 rfl) (vR_cat _ _) rfl ?_
        refine w_cIVW (q := 154) (As := []) (st := [vR x.2.2.2 v271, vR x.2.2.2 x3, vR x.2.2.2 x0]) hx (dc kL_told_1 15 rfl) (cI _ my_J4_init_da8c8 lm_L_129 (by decide)) is_J4_init_da8c8 rfl rfl (fun u hu => sJ4_init_da8c8 hvv271 _ _ _ _ hu) hvv271 (sum_le (sum_R (sum_R (sum_R sum_nil))) (by decide)) rfl (fun h273 => ?_)
        refine j_ldcS (a := 5) (q := 156) hx (show (_, _, "fact ", _) ∈ strs0 by decide +kernel) (dc kL_told_1 16 rfl) rfl ?_
        refine w_cVRW (q := 159) (As := [vR x.2.2.2 15]) (st := [vR x.2.2.2 x3, vR x.2.2.2 x0]) hx (dc kL_told_1 17 rfl) cf16 (by decide) rfl (cI _ my_J4_append_15ec4 lm_L_130 (by decide)) vs_J4_append_15ec4 rfl (fun u hu => sJ4_append_15ec4 _ _ _ _ _ _ hu) (fun e => ite_ne (by unfold mJ4_append_15ec4 at e; exact e)) (sum_le (sum_R (sum_R sum_nil)) (by decide)) rfl (fun v274 h275 => ?_)
        refine j_iload (q := 161) hx (dc kL_told_1 18 rfl) 3 rfl rfl ?_
        refine w_cSRW (q := 164) (As := [.int x4]) (st := [vR x.2.2.2 v274, vR x.2.2.2 x3, vR x.2.2.2 x0]) hx (dc kL_told_1 19 rfl) (cI _ my_L_fact lm_L_165 (by decide)) st_L_fact rfl (fun u hu => sL_fact _ _ _ _ _ hu) (sum_le (sum_R (sum_R (sum_R sum_nil))) (by decide)) rfl (fun v276 h277 => ?_)
        refine w_cVRW (q := 167) (As := [vR x.2.2.2 v276]) (st := [vR x.2.2.2 x3, vR x.2.2.2 x0]) hx (dc kL_told_1 20 rfl) cf16 (by decide) rfl (cI _ my_J4_append_15ec4 lm_L_130 (by decide)) vs_J4_append_15ec4 rfl (fun u hu => sJ4_append_15ec4 _ _ _ _ _ _ hu) (fun e => ite_ne (by unfold mJ4_append_15ec4 at e; exact e)) (sum_le (sum_R (sum_R sum_nil)) (by decide)) rfl (fun v278 h279 => ?_)
        refine j_aload_n (q := 168) hx (dc kL_told_1 21 rfl) rfl 0 rfl rfl ?_
        refine w_gR (q := 171) hx (dc kL_told_1 22 rfl) ff_L_6 lk_L_16 rfl (fun v280 => ?_)
        refine j_iload (q := 173) hx (dc kL_told_1 23 rfl) 3 rfl rfl ?_
        refine j_ldI (q := 174) hx (dc kL_told_1 24 rfl) rfl (fun v281 => ?_)
        refine j_iconst (q := 175) (v := (5 : Int32)) hx (dc kL_told_1 25 rfl) (by decide) rfl ?_
        refine j_icmp_neS (q := 178) (tgt := 183) hx (dc kL_told_1 26 rfl) (by decide) rfl ?_ ?_
        · refine j_new (q := 186) hx (dc kL_told_1 29 rfl) cf16 (by decide) nw_L_127 rfl (fun v283 hvv283 h282 => ?_)
          refine j_dup (q := 187) hx (dc kL_told_1 30 rfl) (vR_cat _ _) rfl ?_
          refine w_cIVW (q := 190) (As := []) (st := [vR x.2.2.2 v283, vR x.2.2.2 v278, vR x.2.2.2 x3, vR x.2.2.2 x0]) hx (dc kL_told_1 31 rfl) (cI _ my_J4_init_da8c8 lm_L_129 (by decide)) is_J4_init_da8c8 rfl rfl (fun u hu => sJ4_init_da8c8 hvv283 _ _ _ _ hu) hvv283 (sum_le (sum_R (sum_R (sum_R (sum_R sum_nil)))) (by decide)) rfl (fun h285 => ?_)
          refine j_ldcS (a := 2) (q := 192) hx (show (_, _, " ", _) ∈ strs0 by decide +kernel) (dc kL_told_1 32 rfl) rfl ?_
          refine w_cVRW (q := 195) (As := [vR x.2.2.2 12]) (st := [vR x.2.2.2 v278, vR x.2.2.2 x3, vR x.2.2.2 x0]) hx (dc kL_told_1 33 rfl) cf16 (by decide) rfl (cI _ my_J4_append_15ec4 lm_L_130 (by decide)) vs_J4_append_15ec4 rfl (fun u hu => sJ4_append_15ec4 _ _ _ _ _ _ hu) (fun e => ite_ne (by unfold mJ4_append_15ec4 at e; exact e)) (sum_le (sum_R (sum_R (sum_R sum_nil))) (by decide)) rfl (fun v286 h287 => ?_)
          refine j_aload_n (q := 196) hx (dc kL_told_1 34 rfl) rfl 0 rfl rfl ?_
          refine w_gR (q := 199) hx (dc kL_told_1 35 rfl) ff_L_6 lk_L_16 rfl (fun v288 => ?_)
          refine j_iload (q := 201) hx (dc kL_told_1 36 rfl) 3 rfl rfl ?_
          refine j_ldI (q := 202) hx (dc kL_told_1 37 rfl) rfl (fun v289 => ?_)
          refine w_cVRW (q := 205) (As := [.int v289]) (st := [vR x.2.2.2 v278, vR x.2.2.2 x3, vR x.2.2.2 x0]) hx (dc kL_told_1 38 rfl) cf16 (by decide) rfl (cI _ my_J4_append_bf812 lm_L_169 (by decide)) vs_J4_append_bf812 rfl (fun u hu => sJ4_append_bf812 _ _ _ _ _ _ hu) (fun e => ite_ne (by unfold mJ4_append_bf812 at e; exact e)) (sum_le (sum_R (sum_R (sum_R sum_nil))) (by decide)) rfl (fun v290 h291 => ?_)
          refine w_cVRW (q := 208) (As := []) (st := [vR x.2.2.2 v278, vR x.2.2.2 x3, vR x.2.2.2 x0]) hx (dc kL_told_1 39 rfl) cf16 (by decide) rfl (cI _ my_J4_toString_0e30d lm_L_137 (by decide)) vs_J4_toString_0e30d rfl (fun u hu => sJ4_toString_0e30d _ _ _ _ _ hu) (fun e => ite_ne (by unfold mJ4_toString_0e30d at e; exact e)) (sum_le (sum_R (sum_R (sum_R sum_nil))) (by decide)) rfl (fun v292 h293 => ?_)
          exact hb208 x0 x2 x3 x4 x0 x3 v278 v292 h293
        · refine j_ldcS (a := 4) (q := 180) hx (show (_, _, "", _) ∈ strs0 by decide +kernel) (dc kL_told_1 27 rfl) rfl ?_
          refine j_goto (q := 208) hx (dc kL_told_1 28 rfl) (by decide) ?_
          exact hb208 x0 x2 x3 x4 x0 x3 v278 14 h279
      unfold mL_told_l109f
      refine j_iload (q := 111) hx (dc kL_told_0 56 rfl) 3 rfl rfl ?_
      refine j_aload_n (q := 112) hx (dc kL_told_0 57 rfl) rfl 0 rfl rfl ?_
      refine w_gI (q := 115) hx (dc kL_told_0 58 rfl) ff_L_3 lk_L_87 rfl (fun v24 => ?_)
      refine j_icmp_geS (q := 118) (tgt := 224) hx (dc kL_told_0 59 rfl) (by decide) rfl ?_ ?_
      · refine j_exit ?_
        refine j_aload_n (q := 225) hx (dc kL_told_1 46 rfl) rfl 0 rfl rfl ?_
        refine j_iconst (q := 226) (v := (3 : Int32)) hx (dc kL_told_1 47 rfl) (by decide) rfl ?_
        refine w_cVIW (q := 229) (As := [.int (3 : Int32)]) (st := []) hx (dc kL_told_1 48 rfl) cf15 (by decide) rfl (cI _ my_L_draw lm_L_75 (by decide)) vs_L_draw rfl (fun u hu => sL_draw _ _ _ _ _ _ hu) (fun e => ite_ne (by unfold mL_draw at e; exact e)) (Nat.zero_le _) rfl (fun v25 h26 => ?_)
        refine j_istore (q := 231) (i := 4) (l2 := [(0, vR x.2.2.2 x0), (2, .int x2), (3, vR x.2.2.2 x3)]) hx (dc kL_told_1 49 rfl) (hn 4 (by decide)) [0, 1, 2] rfl ⟨⟨show (0 : Nat) ≠ 4 by decide, Or.inl (show (0 : Nat) + 1 ≠ 4 by decide)⟩, ⟨⟨show (2 : Nat) ≠ 4 by decide, Or.inl (show (2 : Nat) + 1 ≠ 4 by decide)⟩, ⟨⟨show (3 : Nat) ≠ 4 by decide, Or.inr (vR_cat _ _)⟩, trivial⟩⟩⟩ rfl ?_
        exact j_sub [1, 2, 3, 0] rfl (hb231 x0 x2 x3 v25 h26)
      · refine j_aload_n (q := 119) hx (dc kL_told_0 60 rfl) rfl 0 rfl rfl ?_
        refine w_gR (q := 122) hx (dc kL_told_0 61 rfl) ff_L_6 lk_L_16 rfl (fun v264 => ?_)
        refine j_iload (q := 124) hx (dc kL_told_0 62 rfl) 3 rfl rfl ?_
        refine j_aload_n (q := 125) hx (dc kL_told_0 63 rfl) rfl 0 rfl rfl ?_
        refine j_iconst (q := 126) (v := (3 : Int32)) hx (dc kL_told_1 0 rfl) (by decide) rfl ?_
        refine w_cVIW (q := 129) (As := [.int (3 : Int32)]) (st := [.int x4, vR x.2.2.2 v264]) hx (dc kL_told_1 1 rfl) cf15 (by decide) rfl (cI _ my_L_draw lm_L_75 (by decide)) vs_L_draw rfl (fun u hu => sL_draw _ _ _ _ _ _ hu) (fun e => ite_ne (by unfold mL_draw at e; exact e)) (sum_le (sum_I (sum_R sum_nil)) (by decide)) rfl (fun v265 h266 => ?_)
        refine j_if_neS (q := 132) (tgt := 136) hx (dc kL_told_1 2 rfl) (by decide) rfl ?_ ?_
        · refine j_iconst (q := 137) (v := (1 : Int32)) hx (dc kL_told_1 5 rfl) (by decide) rfl ?_
          refine j_aload_n (q := 138) hx (dc kL_told_1 6 rfl) rfl 0 rfl rfl ?_
          refine j_bipush (q := 140) (v := (9 : Int32)) hx (dc kL_told_1 7 rfl) (by decide) rfl ?_
          refine w_cVIW (q := 143) (As := [.int (9 : Int32)]) (st := [.int (1 : Int32), .int x4, vR x.2.2.2 v264]) hx (dc kL_told_1 8 rfl) cf15 (by decide) rfl (cI _ my_L_draw lm_L_75 (by decide)) vs_L_draw rfl (fun u hu => sL_draw _ _ _ _ _ _ hu) (fun e => ite_ne (by unfold mL_draw at e; exact e)) (sum_le (sum_I (sum_I (sum_R sum_nil))) (by decide)) rfl (fun v267 h268 => ?_)
          refine j_iadd (q := 144) hx (dc kL_told_1 9 rfl) rfl ?_
          exact hb144 x0 x2 x3 x4 v264 x4 ((1 : Int32) + v267) h268
        · refine j_iconst (q := 133) (v := (5 : Int32)) hx (dc kL_told_1 3 rfl) (by decide) rfl ?_
          refine j_goto (q := 144) hx (dc kL_told_1 4 rfl) (by decide) ?_
          exact hb144 x0 x2 x3 x4 v264 x4 (5 : Int32) h266
    exact j_loop (S := (Int32 × Hp)) (lvf := fun s => [(0, vR x.2.2.2 x0), (2, .int x2), (3, vR x.2.2.2 x3), (4, .int s.1)]) (hpf := fun s => s.2) (f := (fun s : (Int32 × Hp) => mL_told_l109f x0 x2 x3 s.1 s.2)) (fun s => hB s.1 s.2) (x4, h)
  have hb68 : ∀ (x0 : Nat) (x2 : Int32) (x3 : Nat) (x4 : Int32) (h : Hp), J x 68 [(0, vR x.2.2.2 x0), (2, .int x2), (3, vR x.2.2.2 x3), (4, .int x4)] [] h (mL_told_l68 x0 x2 x3 x4 h) (fun r => r = u) := by
    intro x0 x2 x3 x4 h
    have hB : ∀ (x4 : Int32) (h : Hp), J x 68 [(0, vR x.2.2.2 x0), (2, .int x2), (3, vR x.2.2.2 x3), (4, .int x4)] [] h (mL_told_l68f x0 x2 x3 x4 h) (TLo (S := (Int32 × Hp)) x 68 (fun s => [(0, vR x.2.2.2 x0), (2, .int x2), (3, vR x.2.2.2 x3), (4, .int s.1)]) [] (fun s => s.2) (fun r => r = u)) := by
      intro x4 h
      have hb77 : ∀ (x0 : Nat) (x2 : Int32) (x3 : Nat) (x4 : Int32) (x5 : Int32) (h : Hp), J x 77 [(0, vR x.2.2.2 x0), (2, .int x2), (3, vR x.2.2.2 x3), (4, .int x4), (5, .int x5)] [] h (mL_told_l77 x0 x2 x3 x4 x5 h) (TLo (S := (Int32 × Hp)) x 68 (fun s => [(0, vR x.2.2.2 x0), (2, .int x2), (3, vR x.2.2.2 x3), (4, .int s.1)]) [] (fun s => s.2) (fun r => r = u)) := by
        intro x0 x2 x3 x4 x5 h
        have hB : ∀ (x5 : Int32) (h : Hp), J x 77 [(0, vR x.2.2.2 x0), (2, .int x2), (3, vR x.2.2.2 x3), (4, .int x4), (5, .int x5)] [] h (mL_told_l77f x0 x2 x3 x4 x5 h) (TLo (S := (Int32 × Hp)) x 77 (fun s => [(0, vR x.2.2.2 x0), (2, .int x2), (3, vR x.2.2.2 x3), (4, .int x4), (5, .int s.1)]) [] (fun s => s.2) (TLo (S := (Int32 × Hp)) x 68 (fun s => [(0, vR x.2.2.2 x0), (2, .int x2), (3, vR x.2.2.2 x3), (4, .int s.1)]) [] (fun s => s.2) (fun r => r = u))) := by
          intro x5 h
          unfold mL_told_l77f
          refine j_iload (q := 79) hx (dc kL_told_0 40 rfl) 4 rfl rfl ?_
          refine j_iconst (q := 80) (v := (5 : Int32)) hx (dc kL_told_0 41 rfl) (by decide) rfl ?_
          refine j_icmp_geS (q := 83) (tgt := 100) hx (dc kL_told_0 42 rfl) (by decide) rfl ?_ ?_
          · refine j_exit ?_
            refine j_iinc (q := 103) (l2 := [(0, vR x.2.2.2 x0), (2, .int x2), (3, vR x.2.2.2 x3)]) hx (dc kL_told_0 52 rfl) 3 rfl (v := (1 : Int32)) (by decide) (hn 4 (by decide)) [0, 1, 2] rfl ⟨⟨show (0 : Nat) ≠ 4 by decide, Or.inl (show (0 : Nat) + 1 ≠ 4 by decide)⟩, ⟨⟨show (2 : Nat) ≠ 4 by decide, Or.inl (show (2 : Nat) + 1 ≠ 4 by decide)⟩, ⟨⟨show (3 : Nat) ≠ 4 by decide, Or.inr (vR_cat _ _)⟩, trivial⟩⟩⟩ rfl ?_
            refine j_goto (q := 68) hx (dc kL_told_0 53 rfl) (by decide) ?_
            exact j_back [1, 2, 3, 0] ((x4 + (1 : Int32)), h) rfl rfl
          · refine j_aload_n (q := 84) hx (dc kL_told_0 43 rfl) rfl 0 rfl rfl ?_
            refine w_gR (q := 87) hx (dc kL_told_0 44 rfl) ff_L_8 lk_L_29 rfl (fun v300 => ?_)
            refine j_iload (q := 89) hx (dc kL_told_0 45 rfl) 3 rfl rfl ?_
            refine j_ldR79 (q := 90) hx (dc kL_told_0 46 rfl) rfl (fun v301 => ?_)
            refine j_iload (q := 92) hx (dc kL_told_0 47 rfl) 4 rfl rfl ?_
            refine j_iconst (q := 93) (v := (0 : Int32)) hx (dc kL_told_0 48 rfl) (by decide) rfl ?_
            refine w_stZ (q := 94) hx (dc kL_told_0 49 rfl) rfl (fun h302 => ?_)
            refine j_iinc (q := 97) (l2 := [(0, vR x.2.2.2 x0), (2, .int x2), (3, vR x.2.2.2 x3), (4, .int x4)]) hx (dc kL_told_0 50 rfl) 4 rfl (v := (1 : Int32)) (by decide) (hn 5 (by decide)) [0, 1, 2, 3] rfl ⟨⟨show (0 : Nat) ≠ 5 by decide, Or.inl (show (0 : Nat) + 1 ≠ 5 by decide)⟩, ⟨⟨show (2 : Nat) ≠ 5 by decide, Or.inl (show (2 : Nat) + 1 ≠ 5 by decide)⟩, ⟨⟨show (3 : Nat) ≠ 5 by decide, Or.inl (show (3 : Nat) + 1 ≠ 5 by decide)⟩, ⟨⟨show (4 : Nat) ≠ 5 by decide, Or.inr rfl⟩, trivial⟩⟩⟩⟩ rfl ?_
            refine j_goto (q := 77) hx (dc kL_told_0 51 rfl) (by decide) ?_
            exact j_back [1, 2, 3, 4, 0] ((x5 + (1 : Int32)), h302) rfl rfl
        exact j_loop (S := (Int32 × Hp)) (lvf := fun s => [(0, vR x.2.2.2 x0), (2, .int x2), (3, vR x.2.2.2 x3), (4, .int x4), (5, .int s.1)]) (hpf := fun s => s.2) (f := (fun s : (Int32 × Hp) => mL_told_l77f x0 x2 x3 x4 s.1 s.2)) (fun s => hB s.1 s.2) (x5, h)
      unfold mL_told_l68f
      refine j_iload (q := 70) hx (dc kL_told_0 35 rfl) 3 rfl rfl ?_
      refine j_iconst (q := 71) (v := (5 : Int32)) hx (dc kL_told_0 36 rfl) (by decide) rfl ?_
      refine j_icmp_geS (q := 74) (tgt := 106) hx (dc kL_told_0 37 rfl) (by decide) rfl ?_ ?_
      · refine j_exit ?_
        refine j_iconst (q := 107) (v := (0 : Int32)) hx (dc kL_told_0 54 rfl) (by decide) rfl ?_
        refine j_istore (q := 109) (i := 4) (l2 := [(0, vR x.2.2.2 x0), (2, .int x2), (3, vR x.2.2.2 x3)]) hx (dc kL_told_0 55 rfl) (hn 4 (by decide)) [0, 1, 2] rfl ⟨⟨show (0 : Nat) ≠ 4 by decide, Or.inl (show (0 : Nat) + 1 ≠ 4 by decide)⟩, ⟨⟨show (2 : Nat) ≠ 4 by decide, Or.inl (show (2 : Nat) + 1 ≠ 4 by decide)⟩, ⟨⟨show (3 : Nat) ≠ 4 by decide, Or.inr (vR_cat _ _)⟩, trivial⟩⟩⟩ rfl ?_
        exact j_sub [1, 2, 3, 0] rfl (hb109 x0 x2 x3 (0 : Int32) h)
      · refine j_iconst (q := 75) (v := (0 : Int32)) hx (dc kL_told_0 38 rfl) (by decide) rfl ?_
        refine j_istore (q := 77) (i := 5) (l2 := [(0, vR x.2.2.2 x0), (2, .int x2), (3, vR x.2.2.2 x3), (4, .int x4)]) hx (dc kL_told_0 39 rfl) (hn 5 (by decide)) [0, 1, 2, 3] rfl ⟨⟨show (0 : Nat) ≠ 5 by decide, Or.inl (show (0 : Nat) + 1 ≠ 5 by decide)⟩, ⟨⟨show (2 : Nat) ≠ 5 by decide, Or.inl (show (2 : Nat) + 1 ≠ 5 by decide)⟩, ⟨⟨show (3 : Nat) ≠ 5 by decide, Or.inl (show (3 : Nat) + 1 ≠ 5 by decide)⟩, ⟨⟨show (4 : Nat) ≠ 5 by decide, Or.inr rfl⟩, trivial⟩⟩⟩⟩ rfl ?_
        exact j_sub [1, 2, 3, 4, 0] rfl (hb77 x0 x2 x3 x4 (0 : Int32) h)
    exact j_loop (S := (Int32 × Hp)) (lvf := fun s => [(0, vR x.2.2.2 x0), (2, .int x2), (3, vR x.2.2.2 x3), (4, .int s.1)]) (hpf := fun s => s.2) (f := (fun s : (Int32 × Hp) => mL_told_l68f x0 x2 x3 s.1 s.2)) (fun s => hB s.1 s.2) (x4, h)
  unfold mL_told
  refine J.ckd fun hck => ?_
  refine j_new (q := 3) hx (dc kL_told_0 0 rfl) cf16 (by decide) nw_L_127 rfl (fun v2 hvv2 h1 => ?_)
  refine j_dup (q := 4) hx (dc kL_told_0 1 rfl) (vR_cat _ _) rfl ?_
  refine j_aload_n (q := 5) hx (dc kL_told_0 2 rfl) rfl 0 rfl rfl ?_
  refine w_cVRW (q := 8) (As := []) (st := [vR x.2.2.2 v2, vR x.2.2.2 v2]) hx (dc kL_told_0 3 rfl) cf15 (by decide) rfl (cI _ my_L_gap lm_L_144 (by decide)) vs_L_gap rfl (fun u hu => sL_gap _ _ _ _ _ hu) (fun e => ite_ne (by unfold mL_gap at e; exact e)) (sum_le (sum_R (sum_R sum_nil)) (by decide)) rfl (fun v3 h4 => ?_)
  refine w_cIVW (q := 11) (As := [vR x.2.2.2 v3]) (st := [vR x.2.2.2 v2]) hx (dc kL_told_0 4 rfl) (cI _ my_J4_init_a7421 lm_L_150 (by decide)) is_J4_init_a7421 rfl rfl (fun u hu => sJ4_init_a7421 hvv2 _ _ _ _ _ hu) hvv2 (sum_le (sum_R sum_nil) (by decide)) rfl (fun h6 => ?_)
  refine j_astore_n (q := 12) (i := 3) (l2 := [(0, vR x.2.2.2 x0), (1, .int x1), (2, .int x2)]) hx (dc kL_told_0 5 rfl) rfl (hn 3 (by decide)) [0, 1, 2] rfl ⟨⟨show (0 : Nat) ≠ 3 by decide, Or.inl (show (0 : Nat) + 1 ≠ 3 by decide)⟩, ⟨⟨show (1 : Nat) ≠ 3 by decide, Or.inl (show (1 : Nat) + 1 ≠ 3 by decide)⟩, ⟨⟨show (2 : Nat) ≠ 3 by decide, Or.inr rfl⟩, trivial⟩⟩⟩ rfl ?_
  refine j_aload_n (q := 13) hx (dc kL_told_0 6 rfl) rfl 1 rfl rfl ?_
  refine j_iconst (q := 14) (v := (1 : Int32)) hx (dc kL_told_0 7 rfl) (by decide) rfl ?_
  refine j_aload_n (q := 15) hx (dc kL_told_0 8 rfl) rfl 1 rfl rfl ?_
  refine j_iload_n (q := 16) hx (dc kL_told_0 9 rfl) rfl 2 rfl rfl ?_
  refine w_cVIW (q := 19) (As := [.int x1]) (st := [.int (1 : Int32), vR x.2.2.2 x0]) hx (dc kL_told_0 10 rfl) cf15 (by decide) rfl (cI _ my_L_draw lm_L_75 (by decide)) vs_L_draw rfl (fun u hu => sL_draw _ _ _ _ _ _ hu) (fun e => ite_ne (by unfold mL_draw at e; exact e)) (sum_le (sum_I (sum_R sum_nil)) (by decide)) rfl (fun v7 h8 => ?_)
  refine j_iadd (q := 20) hx (dc kL_told_0 11 rfl) rfl ?_
  refine w_sI (q := 23) hx (dc kL_told_0 12 rfl) ff_L_3 rfl lk_L_87 (Or.inl rfl) rfl (fun h9 => ?_)
  refine j_aload_n (q := 24) hx (dc kL_told_0 13 rfl) rfl 1 rfl rfl ?_
  refine j_iconst (q := 25) (v := (0 : Int32)) hx (dc kL_told_0 14 rfl) (by decide) rfl ?_
  refine w_sI (q := 28) hx (dc kL_told_0 15 rfl) ff_L_5 rfl lk_L_147 (Or.inl rfl) rfl (fun h10 => ?_)
  refine j_aload_n (q := 29) hx (dc kL_told_0 16 rfl) rfl 1 rfl rfl ?_
  refine j_sipush (q := 32) (v := (300 : Int32)) hx (dc kL_told_0 17 rfl) (by decide) rfl ?_
  refine w_sI (q := 35) hx (dc kL_told_0 18 rfl) ff_L_4 rfl lk_L_153 (Or.inl rfl) rfl (fun h11 => ?_)
  refine j_aload_n (q := 36) hx (dc kL_told_0 19 rfl) rfl 1 rfl rfl ?_
  refine w_gR (q := 39) hx (dc kL_told_0 20 rfl) ff_L_7 lk_L_23 rfl (fun v12 => ?_)
  refine w_cVVW (q := 42) (As := []) (st := []) hx (dc kL_told_0 21 rfl) cf18 (by decide) rfl (cI _ my_Jx4a65c_clear_da8c8 lm_L_156 (by decide)) vs_Jx4a65c_clear_da8c8 rfl (fun u hu => sJx4a65c_clear_da8c8 _ _ _ _ _ hu) (fun e => ite_ne (by unfold mJx4a65c_clear_da8c8 at e; exact e)) (Nat.zero_le _) rfl (fun h14 => ?_)
  refine j_aload_n (q := 43) hx (dc kL_told_0 22 rfl) rfl 1 rfl rfl ?_
  refine j_new (q := 46) hx (dc kL_told_0 23 rfl) cf14 (by decide) nw_L_114 rfl (fun v16 hvv16 h15 => ?_)
  refine j_dup (q := 47) hx (dc kL_told_0 24 rfl) (vR_cat _ _) rfl ?_
  refine w_cIVW (q := 50) (As := []) (st := [vR x.2.2.2 v16, vR x.2.2.2 x0]) hx (dc kL_told_0 25 rfl) (cI _ my_X14_init lm_L_159 (by decide)) is_X14_init rfl rfl (fun u hu => sX14_init hvv16 _ _ _ _ hu) hvv16 (sum_le (sum_R (sum_R sum_nil)) (by decide)) rfl (fun h18 => ?_)
  refine w_sR (q := 53) hx (dc kL_told_0 26 rfl) ff_L_9 lk_L_109 (Or.inl rfl) rfl (fun h19 => ?_)
  refine j_aload_n (q := 54) hx (dc kL_told_0 27 rfl) rfl 1 rfl rfl ?_
  refine j_null (q := 55) hx (dc kL_told_0 28 rfl) rfl ?_
  refine w_sR (q := 58) hx (dc kL_told_0 29 rfl) ff_L_10 lk_L_160 (Or.inl rfl) rfl (fun h20 => ?_)
  refine j_aload_n (q := 59) hx (dc kL_told_0 30 rfl) rfl 1 rfl rfl ?_
  refine w_gR (q := 62) hx (dc kL_told_0 31 rfl) ff_L_11 lk_L_32 rfl (fun v21 => ?_)
  refine w_cVVW (q := 65) (As := []) (st := []) hx (dc kL_told_0 32 rfl) cf18 (by decide) rfl (cI _ my_Jx4a65c_clear_da8c8 lm_L_156 (by decide)) vs_Jx4a65c_clear_da8c8 rfl (fun u hu => sJx4a65c_clear_da8c8 _ _ _ _ _ hu) (fun e => ite_ne (by unfold mJx4a65c_clear_da8c8 at e; exact e)) (Nat.zero_le _) rfl (fun h23 => ?_)
  refine j_iconst (q := 66) (v := (0 : Int32)) hx (dc kL_told_0 33 rfl) (by decide) rfl ?_
  refine j_istore (q := 68) (i := 4) (l2 := [(3, vR x.2.2.2 v2), (0, vR x.2.2.2 x0), (2, .int x2)]) hx (dc kL_told_0 34 rfl) (hn 4 (by decide)) [0, 1, 3] rfl ⟨⟨show (3 : Nat) ≠ 4 by decide, Or.inr (vR_cat _ _)⟩, ⟨⟨show (0 : Nat) ≠ 4 by decide, Or.inl (show (0 : Nat) + 1 ≠ 4 by decide)⟩, ⟨⟨show (2 : Nat) ≠ 4 by decide, Or.inl (show (2 : Nat) + 1 ≠ 4 by decide)⟩, trivial⟩⟩⟩ rfl ?_
  exact j_sub [2, 3, 1, 0] rfl (hb68 x0 x2 v2 (0 : Int32) h23)

set_option maxHeartbeats 4000000 in
set_option maxRecDepth 100000 in
theorem sL_numbers (l : Launch) (w : Wd) (x0 : Nat) (x1 : Int32) (h : Hp) (u : (Int32 × Hp)) (hK : mL_numbers x0 x1 h = some u) : M1 l w mi_L_numbers 7 [vR w x0, .int x1] h u.2 (some (.int u.1)) := by
  refine M1.of (own := RL) (T := fun _ r => r = u) hK (by decide +kernel) rfl (by first | (simp only [lg_lenR, lg_lenI, lg_lenL, lg_len0]; decide) | decide) (fun x hx hnl hhf hl hw hret hnm hQ h0e => ⟨?_, rfl⟩)
  subst hw
  subst hl
  have hR : Rt x h u.2 (some (.int u.1)) ((some .int)) := ⟨h0e, hhf, hret, hQ⟩
  have hn : ∀ i, i < 5 → i < x.2.2.1.1.1 := fun i hi => by rw [hnl]; exact hi
  have e0 : lv_args 0 [vR x.2.2.2 x0, .int x1] = [(0, vR x.2.2.2 x0), (1, .int x1)] := by simp only [lv_argsR, lv_argsI, lv_argsL, lv_args0]
  rw [e0]
  have hb34 : ∀ (x0 : Nat) (x1 : Int32) (x2 : Int32) (x3 : Int32) (h : Hp), J x 34 [(0, vR x.2.2.2 x0), (1, .int x1), (2, .int x2), (3, .int x3)] [] h (mL_numbers_l34 x0 x1 x2 x3 h) (fun r => r = u) := by
    intro x0 x1 x2 x3 h
    have hB : ∀ (x2 : Int32) (x3 : Int32) (h : Hp), J x 34 [(0, vR x.2.2.2 x0), (1, .int x1), (2, .int x2), (3, .int x3)] [] h (mL_numbers_l34f x0 x1 x2 x3 h) (TLo (S := (Int32 × Int32 × Hp)) x 34 (fun s => [(0, vR x.2.2.2 x0), (1, .int x1), (2, .int s.1), (3, .int s.2.1)]) [] (fun s => s.2.2) (fun r => r = u)) := by
      intro x2 x3 h
      have hb50 : ∀ (x0 : Nat) (x1 : Int32) (x2 : Int32) (x3 : Int32) (x4 : Int32) (h : Hp), J x 50 [(0, vR x.2.2.2 x0), (1, .int x1), (2, .int x2), (3, .int x3), (4, .int x4)] [] h (mL_numbers_l50 x0 x1 x2 x3 x4 h) (TLo (S := (Int32 × Int32 × Hp)) x 34 (fun s => [(0, vR x.2.2.2 x0), (1, .int x1), (2, .int s.1), (3, .int s.2.1)]) [] (fun s => s.2.2) (fun r => r = u)) := by
        intro x0 x1 x2 x3 x4 h
        have hB : ∀ (x2 : Int32) (x4 : Int32) (h : Hp), J x 50 [(0, vR x.2.2.2 x0), (1, .int x1), (2, .int x2), (3, .int x3), (4, .int x4)] [] h (mL_numbers_l50f x0 x1 x3 x2 x4 h) (TLo (S := (Int32 × Int32 × Hp)) x 50 (fun s => [(0, vR x.2.2.2 x0), (1, .int x1), (2, .int s.1), (3, .int x3), (4, .int s.2.1)]) [] (fun s => s.2.2) (TLo (S := (Int32 × Int32 × Hp)) x 34 (fun s => [(0, vR x.2.2.2 x0), (1, .int x1), (2, .int s.1), (3, .int s.2.1)]) [] (fun s => s.2.2) (fun r => r = u))) := by
          intro x2 x4 h
          unfold mL_numbers_l50f
          refine j_iload (q := 52) hx (dc kL_numbers_0 30 rfl) 4 rfl rfl ?_
          refine j_iconst (q := 53) (v := (3 : Int32)) hx (dc kL_numbers_0 31 rfl) (by decide) rfl ?_
          refine j_icmp_geS (q := 56) (tgt := 79) hx (dc kL_numbers_0 32 rfl) (by decide) rfl ?_ ?_
          · refine j_exit ?_
            refine j_iinc (q := 82) (l2 := [(0, vR x.2.2.2 x0), (1, .int x1), (2, .int x2)]) hx (dc kL_numbers_0 46 rfl) 3 rfl (v := (1 : Int32)) (by decide) (hn 3 (by decide)) [0, 1, 2] rfl ⟨⟨show (0 : Nat) ≠ 3 by decide, Or.inl (show (0 : Nat) + 1 ≠ 3 by decide)⟩, ⟨⟨show (1 : Nat) ≠ 3 by decide, Or.inl (show (1 : Nat) + 1 ≠ 3 by decide)⟩, ⟨⟨show (2 : Nat) ≠ 3 by decide, Or.inr rfl⟩, trivial⟩⟩⟩ rfl ?_
            refine j_goto (q := 34) hx (dc kL_numbers_0 47 rfl) (by decide) ?_
            exact j_back [1, 2, 3, 0] (x2, (x3 + (1 : Int32)), h) rfl rfl
          · refine j_bipush (q := 58) (v := (31 : Int32)) hx (dc kL_numbers_0 33 rfl) (by decide) rfl ?_
            refine j_iload_n (q := 59) hx (dc kL_numbers_0 34 rfl) rfl 2 rfl rfl ?_
            refine j_imul (q := 60) hx (dc kL_numbers_0 35 rfl) rfl ?_
            refine j_aload_n (q := 61) hx (dc kL_numbers_0 36 rfl) rfl 0 rfl rfl ?_
            refine w_gR (q := 64) hx (dc kL_numbers_0 37 rfl) ff_L_0 lk_L_10 rfl (fun v10 => ?_)
            refine j_iload_n (q := 65) hx (dc kL_numbers_0 38 rfl) rfl 1 rfl rfl ?_
            refine j_iload_n (q := 66) hx (dc kL_numbers_0 39 rfl) rfl 3 rfl rfl ?_
            refine j_iload (q := 68) hx (dc kL_numbers_0 40 rfl) 4 rfl rfl ?_
            refine w_cVIW (q := 71) (As := [.int x1, .int x3, .int x4]) (st := [.int ((31 : Int32) * x2)]) hx (dc kL_numbers_0 41 rfl) cf11 (by decide) rfl (cI _ my_X11_element lm_L_256 (by decide)) vs_X11_element rfl (fun u hu => sX11_element _ _ _ _ _ _ _ _ hu) (fun e => ite_ne (by unfold mX11_element at e; exact e)) (sum_le (sum_I sum_nil) (by decide)) rfl (fun v11 h12 => ?_)
            refine j_iadd (q := 72) hx (dc kL_numbers_0 42 rfl) rfl ?_
            refine j_istore_n (q := 73) (i := 2) (l2 := [(0, vR x.2.2.2 x0), (1, .int x1), (3, .int x3), (4, .int x4)]) hx (dc kL_numbers_0 43 rfl) rfl (hn 2 (by decide)) [0, 1, 3, 4] rfl ⟨⟨show (0 : Nat) ≠ 2 by decide, Or.inl (show (0 : Nat) + 1 ≠ 2 by decide)⟩, ⟨⟨show (1 : Nat) ≠ 2 by decide, Or.inr rfl⟩, ⟨⟨show (3 : Nat) ≠ 2 by decide, Or.inl (show (3 : Nat) + 1 ≠ 2 by decide)⟩, ⟨⟨show (4 : Nat) ≠ 2 by decide, Or.inl (show (4 : Nat) + 1 ≠ 2 by decide)⟩, trivial⟩⟩⟩⟩ rfl ?_
            refine j_iinc (q := 76) (l2 := [(2, .int (((31 : Int32) * x2) + v11)), (0, vR x.2.2.2 x0), (1, .int x1), (3, .int x3)]) hx (dc kL_numbers_0 44 rfl) 4 rfl (v := (1 : Int32)) (by decide) (hn 4 (by decide)) [0, 1, 2, 3] rfl ⟨⟨show (2 : Nat) ≠ 4 by decide, Or.inl (show (2 : Nat) + 1 ≠ 4 by decide)⟩, ⟨⟨show (0 : Nat) ≠ 4 by decide, Or.inl (show (0 : Nat) + 1 ≠ 4 by decide)⟩, ⟨⟨show (1 : Nat) ≠ 4 by decide, Or.inl (show (1 : Nat) + 1 ≠ 4 by decide)⟩, ⟨⟨show (3 : Nat) ≠ 4 by decide, Or.inr rfl⟩, trivial⟩⟩⟩⟩ rfl ?_
            refine j_goto (q := 50) hx (dc kL_numbers_0 45 rfl) (by decide) ?_
            exact j_back [2, 3, 1, 4, 0] ((((31 : Int32) * x2) + v11), (x4 + (1 : Int32)), h12) rfl rfl
        exact j_loop (S := (Int32 × Int32 × Hp)) (lvf := fun s => [(0, vR x.2.2.2 x0), (1, .int x1), (2, .int s.1), (3, .int x3), (4, .int s.2.1)]) (hpf := fun s => s.2.2) (f := (fun s : (Int32 × Int32 × Hp) => mL_numbers_l50f x0 x1 x3 s.1 s.2.1 s.2.2)) (fun s => hB s.1 s.2.1 s.2.2) (x2, x4, h)
      unfold mL_numbers_l34f
      refine j_iload_n (q := 35) hx (dc kL_numbers_0 21 rfl) rfl 3 rfl rfl ?_
      refine j_aload_n (q := 36) hx (dc kL_numbers_0 22 rfl) rfl 0 rfl rfl ?_
      refine w_gR (q := 39) hx (dc kL_numbers_0 23 rfl) ff_L_0 lk_L_10 rfl (fun v1 => ?_)
      refine j_iload_n (q := 40) hx (dc kL_numbers_0 24 rfl) rfl 1 rfl rfl ?_
      refine j_iconst (q := 41) (v := (5 : Int32)) hx (dc kL_numbers_0 25 rfl) (by decide) rfl ?_
      refine w_cVIW (q := 44) (As := [.int x1, .int (5 : Int32)]) (st := [.int x3]) hx (dc kL_numbers_0 26 rfl) cf11 (by decide) rfl (cI _ my_X11_of lm_L_253 (by decide)) vs_X11_of rfl (fun u hu => sX11_of _ _ _ _ _ _ _ hu) (fun e => ite_ne (by unfold mX11_of at e; exact e)) (sum_le (sum_I sum_nil) (by decide)) rfl (fun v2 h3 => ?_)
      refine j_icmp_geS (q := 47) (tgt := 85) hx (dc kL_numbers_0 27 rfl) (by decide) rfl ?_ ?_
      · refine j_exit ?_
        refine j_bipush (q := 87) (v := (31 : Int32)) hx (dc kL_numbers_0 48 rfl) (by decide) rfl ?_
        refine j_bipush (q := 89) (v := (31 : Int32)) hx (dc kL_numbers_0 49 rfl) (by decide) rfl ?_
        refine j_iload_n (q := 90) hx (dc kL_numbers_0 50 rfl) rfl 2 rfl rfl ?_
        refine j_imul (q := 91) hx (dc kL_numbers_0 51 rfl) rfl ?_
        refine j_aload_n (q := 92) hx (dc kL_numbers_0 52 rfl) rfl 0 rfl rfl ?_
        refine w_gR (q := 95) hx (dc kL_numbers_0 53 rfl) ff_L_0 lk_L_10 rfl (fun v4 => ?_)
        refine j_iload_n (q := 96) hx (dc kL_numbers_0 54 rfl) rfl 1 rfl rfl ?_
        refine w_cVIW (q := 99) (As := [.int x1]) (st := [.int ((31 : Int32) * x2), .int (31 : Int32)]) hx (dc kL_numbers_0 55 rfl) cf11 (by decide) rfl (cI _ my_X11_judged lm_L_260 (by decide)) vs_X11_judged rfl (fun u hu => sX11_judged _ _ _ _ _ _ hu) (fun e => ite_ne (by unfold mX11_judged at e; exact e)) (sum_le (sum_I (sum_I sum_nil)) (by decide)) rfl (fun v5 h6 => ?_)
        refine j_iadd (q := 100) hx (dc kL_numbers_0 56 rfl) rfl ?_
        refine j_imul (q := 101) hx (dc kL_numbers_0 57 rfl) rfl ?_
        refine j_aload_n (q := 102) hx (dc kL_numbers_0 58 rfl) rfl 0 rfl rfl ?_
        refine w_gR (q := 105) hx (dc kL_numbers_0 59 rfl) ff_L_0 lk_L_10 rfl (fun v7 => ?_)
        refine j_iload_n (q := 106) hx (dc kL_numbers_0 60 rfl) rfl 1 rfl rfl ?_
        refine j_iconst (q := 107) (v := (0 : Int32)) hx (dc kL_numbers_0 61 rfl) (by decide) rfl ?_
        refine w_cVIW (q := 110) (As := [.int x1, .int (0 : Int32)]) (st := [.int ((31 : Int32) * (((31 : Int32) * x2) + v5))]) hx (dc kL_numbers_0 62 rfl) cf11 (by decide) rfl (cI _ my_X11_chance lm_L_263 (by decide)) vs_X11_chance rfl (fun u hu => sX11_chance _ _ _ _ _ _ _ hu) (fun e => ite_ne (by unfold mX11_chance at e; exact e)) (sum_le (sum_I sum_nil) (by decide)) rfl (fun v8 h9 => ?_)
        refine j_iadd (q := 111) hx (dc kL_numbers_0 63 rfl) rfl ?_
        exact r_iW hx hR (dc kL_numbers_1 0 rfl)
      · refine j_iconst (q := 48) (v := (0 : Int32)) hx (dc kL_numbers_0 28 rfl) (by decide) rfl ?_
        refine j_istore (q := 50) (i := 4) (l2 := [(0, vR x.2.2.2 x0), (1, .int x1), (2, .int x2), (3, .int x3)]) hx (dc kL_numbers_0 29 rfl) (hn 4 (by decide)) [0, 1, 2, 3] rfl ⟨⟨show (0 : Nat) ≠ 4 by decide, Or.inl (show (0 : Nat) + 1 ≠ 4 by decide)⟩, ⟨⟨show (1 : Nat) ≠ 4 by decide, Or.inl (show (1 : Nat) + 1 ≠ 4 by decide)⟩, ⟨⟨show (2 : Nat) ≠ 4 by decide, Or.inl (show (2 : Nat) + 1 ≠ 4 by decide)⟩, ⟨⟨show (3 : Nat) ≠ 4 by decide, Or.inr rfl⟩, trivial⟩⟩⟩⟩ rfl ?_
        exact j_sub [1, 2, 3, 4, 0] rfl (hb50 x0 x1 x2 x3 (0 : Int32) h3)
    exact j_loop (S := (Int32 × Int32 × Hp)) (lvf := fun s => [(0, vR x.2.2.2 x0), (1, .int x1), (2, .int s.1), (3, .int s.2.1)]) (hpf := fun s => s.2.2) (f := (fun s : (Int32 × Int32 × Hp) => mL_numbers_l34f x0 x1 s.1 s.2.1 s.2.2)) (fun s => hB s.1 s.2.1 s.2.2) (x2, x3, h)
  have hb5 : ∀ (x0 : Nat) (x1 : Int32) (x2 : Int32) (x3 : Int32) (h : Hp), J x 5 [(0, vR x.2.2.2 x0), (1, .int x1), (2, .int x2), (3, .int x3)] [] h (mL_numbers_l5 x0 x1 x2 x3 h) (fun r => r = u) := by
    intro x0 x1 x2 x3 h
    have hB : ∀ (x2 : Int32) (x3 : Int32) (h : Hp), J x 5 [(0, vR x.2.2.2 x0), (1, .int x1), (2, .int x2), (3, .int x3)] [] h (mL_numbers_l5f x0 x1 x2 x3 h) (TLo (S := (Int32 × Int32 × Hp)) x 5 (fun s => [(0, vR x.2.2.2 x0), (1, .int x1), (2, .int s.1), (3, .int s.2.1)]) [] (fun s => s.2.2) (fun r => r = u)) := by
      intro x2 x3 h
      unfold mL_numbers_l5f
      refine j_iload_n (q := 6) hx (dc kL_numbers_0 4 rfl) rfl 3 rfl rfl ?_
      refine j_bipush (q := 8) (v := (11 : Int32)) hx (dc kL_numbers_0 5 rfl) (by decide) rfl ?_
      refine j_icmp_geS (q := 11) (tgt := 32) hx (dc kL_numbers_0 6 rfl) (by decide) rfl ?_ ?_
      · refine j_exit ?_
        refine j_iconst (q := 33) (v := (0 : Int32)) hx (dc kL_numbers_0 19 rfl) (by decide) rfl ?_
        refine j_istore_n (q := 34) (i := 3) (l2 := [(0, vR x.2.2.2 x0), (1, .int x1), (2, .int x2)]) hx (dc kL_numbers_0 20 rfl) rfl (hn 3 (by decide)) [0, 1, 2] rfl ⟨⟨show (0 : Nat) ≠ 3 by decide, Or.inl (show (0 : Nat) + 1 ≠ 3 by decide)⟩, ⟨⟨show (1 : Nat) ≠ 3 by decide, Or.inl (show (1 : Nat) + 1 ≠ 3 by decide)⟩, ⟨⟨show (2 : Nat) ≠ 3 by decide, Or.inr rfl⟩, trivial⟩⟩⟩ rfl ?_
        exact j_sub [1, 2, 3, 0] rfl (hb34 x0 x1 x2 (0 : Int32) h)
      · refine j_bipush (q := 13) (v := (31 : Int32)) hx (dc kL_numbers_0 7 rfl) (by decide) rfl ?_
        refine j_iload_n (q := 14) hx (dc kL_numbers_0 8 rfl) rfl 2 rfl rfl ?_
        refine j_imul (q := 15) hx (dc kL_numbers_0 9 rfl) rfl ?_
        refine j_aload_n (q := 16) hx (dc kL_numbers_0 10 rfl) rfl 0 rfl rfl ?_
        refine w_gR (q := 19) hx (dc kL_numbers_0 11 rfl) ff_L_0 lk_L_10 rfl (fun v13 => ?_)
        refine j_iload_n (q := 20) hx (dc kL_numbers_0 12 rfl) rfl 1 rfl rfl ?_
        refine j_iload_n (q := 21) hx (dc kL_numbers_0 13 rfl) rfl 3 rfl rfl ?_
        refine w_cVIW (q := 24) (As := [.int x1, .int x3]) (st := [.int ((31 : Int32) * x2)]) hx (dc kL_numbers_0 14 rfl) cf11 (by decide) rfl (cI _ my_X11_of lm_L_253 (by decide)) vs_X11_of rfl (fun u hu => sX11_of _ _ _ _ _ _ _ hu) (fun e => ite_ne (by unfold mX11_of at e; exact e)) (sum_le (sum_I sum_nil) (by decide)) rfl (fun v14 h15 => ?_)
        refine j_iadd (q := 25) hx (dc kL_numbers_0 15 rfl) rfl ?_
        refine j_istore_n (q := 26) (i := 2) (l2 := [(0, vR x.2.2.2 x0), (1, .int x1), (3, .int x3)]) hx (dc kL_numbers_0 16 rfl) rfl (hn 2 (by decide)) [0, 1, 3] rfl ⟨⟨show (0 : Nat) ≠ 2 by decide, Or.inl (show (0 : Nat) + 1 ≠ 2 by decide)⟩, ⟨⟨show (1 : Nat) ≠ 2 by decide, Or.inr rfl⟩, ⟨⟨show (3 : Nat) ≠ 2 by decide, Or.inl (show (3 : Nat) + 1 ≠ 2 by decide)⟩, trivial⟩⟩⟩ rfl ?_
        refine j_iinc (q := 29) (l2 := [(2, .int (((31 : Int32) * x2) + v14)), (0, vR x.2.2.2 x0), (1, .int x1)]) hx (dc kL_numbers_0 17 rfl) 3 rfl (v := (1 : Int32)) (by decide) (hn 3 (by decide)) [0, 1, 2] rfl ⟨⟨show (2 : Nat) ≠ 3 by decide, Or.inr rfl⟩, ⟨⟨show (0 : Nat) ≠ 3 by decide, Or.inl (show (0 : Nat) + 1 ≠ 3 by decide)⟩, ⟨⟨show (1 : Nat) ≠ 3 by decide, Or.inl (show (1 : Nat) + 1 ≠ 3 by decide)⟩, trivial⟩⟩⟩ rfl ?_
        refine j_goto (q := 5) hx (dc kL_numbers_0 18 rfl) (by decide) ?_
        exact j_back [2, 3, 1, 0] ((((31 : Int32) * x2) + v14), (x3 + (1 : Int32)), h15) rfl rfl
    exact j_loop (S := (Int32 × Int32 × Hp)) (lvf := fun s => [(0, vR x.2.2.2 x0), (1, .int x1), (2, .int s.1), (3, .int s.2.1)]) (hpf := fun s => s.2.2) (f := (fun s : (Int32 × Int32 × Hp) => mL_numbers_l5f x0 x1 s.1 s.2.1 s.2.2)) (fun s => hB s.1 s.2.1 s.2.2) (x2, x3, h)
  unfold mL_numbers
  refine J.ckd fun hck => ?_
  refine j_bipush (q := 2) (v := (17 : Int32)) hx (dc kL_numbers_0 0 rfl) (by decide) rfl ?_
  refine j_istore_n (q := 3) (i := 2) (l2 := [(0, vR x.2.2.2 x0), (1, .int x1)]) hx (dc kL_numbers_0 1 rfl) rfl (hn 2 (by decide)) [0, 1] rfl ⟨⟨show (0 : Nat) ≠ 2 by decide, Or.inl (show (0 : Nat) + 1 ≠ 2 by decide)⟩, ⟨⟨show (1 : Nat) ≠ 2 by decide, Or.inr rfl⟩, trivial⟩⟩ rfl ?_
  refine j_iconst (q := 4) (v := (0 : Int32)) hx (dc kL_numbers_0 2 rfl) (by decide) rfl ?_
  refine j_istore_n (q := 5) (i := 3) (l2 := [(2, .int (17 : Int32)), (0, vR x.2.2.2 x0), (1, .int x1)]) hx (dc kL_numbers_0 3 rfl) rfl (hn 3 (by decide)) [0, 1, 2] rfl ⟨⟨show (2 : Nat) ≠ 3 by decide, Or.inr rfl⟩, ⟨⟨show (0 : Nat) ≠ 3 by decide, Or.inl (show (0 : Nat) + 1 ≠ 3 by decide)⟩, ⟨⟨show (1 : Nat) ≠ 3 by decide, Or.inl (show (1 : Nat) + 1 ≠ 3 by decide)⟩, trivial⟩⟩⟩ rfl ?_
  exact j_sub [2, 3, 1, 0] rfl (hb5 x0 x1 (17 : Int32) (0 : Int32) h)

set_option maxHeartbeats 4000000 in
set_option maxRecDepth 100000 in
theorem sL_digest (l : Launch) (w : Wd) (x0 : Nat) (h : Hp) (u : (Int32 × Hp)) (hK : mL_digest x0 h = some u) : M1 l w mi_L_digest 9 [vR w x0] h u.2 (some (.int u.1)) := by
  refine M1.of (own := RL) (T := fun _ r => r = u) hK (by decide +kernel) rfl (by first | (simp only [lg_lenR, lg_lenI, lg_lenL, lg_len0]; decide) | decide) (fun x hx hnl hhf hl hw hret hnm hQ h0e => ⟨?_, rfl⟩)
  subst hw
  subst hl
  have hR : Rt x h u.2 (some (.int u.1)) ((some .int)) := ⟨h0e, hhf, hret, hQ⟩
  have hn : ∀ i, i < 4 → i < x.2.2.1.1.1 := fun i hi => by rw [hnl]; exact hi
  have e0 : lv_args 0 [vR x.2.2.2 x0] = [(0, vR x.2.2.2 x0)] := by simp only [lv_argsR, lv_argsI, lv_argsL, lv_args0]
  rw [e0]
  have hb99 : ∀ (x0 : Nat) (x1 : Int32) (x2 : Int32) (h : Hp), J x 99 [(0, vR x.2.2.2 x0), (1, .int x1), (2, .int x2)] [] h (mL_digest_l99 x0 x1 x2 h) (fun r => r = u) := by
    intro x0 x1 x2 h
    have hB : ∀ (x1 : Int32) (x2 : Int32) (h : Hp), J x 99 [(0, vR x.2.2.2 x0), (1, .int x1), (2, .int x2)] [] h (mL_digest_l99f x0 x1 x2 h) (TLo (S := (Int32 × Int32 × Hp)) x 99 (fun s => [(0, vR x.2.2.2 x0), (1, .int s.1), (2, .int s.2.1)]) [] (fun s => s.2.2) (fun r => r = u)) := by
      intro x1 x2 h
      unfold mL_digest_l99f
      refine j_iload_n (q := 100) hx (dc kL_digest_0 57 rfl) rfl 2 rfl rfl ?_
      refine j_aload_n (q := 101) hx (dc kL_digest_0 58 rfl) rfl 0 rfl rfl ?_
      refine w_gR (q := 104) hx (dc kL_digest_0 59 rfl) ff_L_0 lk_L_10 rfl (fun v10 => ?_)
      refine j_iconst (q := 105) (v := (2 : Int32)) hx (dc kL_digest_0 60 rfl) (by decide) rfl ?_
      refine w_cVIW (q := 108) (As := [.int (2 : Int32)]) (st := [.int x2]) hx (dc kL_digest_0 61 rfl) cf11 (by decide) rfl (cI _ my_X11_count lm_L_251 (by decide)) vs_X11_count rfl (fun u hu => sX11_count _ _ _ _ _ _ hu) (fun e => ite_ne (by unfold mX11_count at e; exact e)) (sum_le (sum_I sum_nil) (by decide)) rfl (fun v11 h12 => ?_)
      refine j_icmp_geS (q := 111) (tgt := 128) hx (dc kL_digest_0 62 rfl) (by decide) rfl ?_ ?_
      · refine j_exit ?_
        refine j_bipush (q := 130) (v := (31 : Int32)) hx (dc kL_digest_1 9 rfl) (by decide) rfl ?_
        refine j_iload_n (q := 131) hx (dc kL_digest_1 10 rfl) rfl 1 rfl rfl ?_
        refine j_imul (q := 132) hx (dc kL_digest_1 11 rfl) rfl ?_
        refine j_aload_n (q := 133) hx (dc kL_digest_1 12 rfl) rfl 0 rfl rfl ?_
        refine w_gR (q := 136) hx (dc kL_digest_1 13 rfl) ff_L_0 lk_L_10 rfl (fun v13 => ?_)
        refine w_cVIW (q := 139) (As := []) (st := [.int ((31 : Int32) * x1)]) hx (dc kL_digest_1 14 rfl) cf11 (by decide) rfl (cI _ my_X11_outcomes lm_L_277 (by decide)) vs_X11_outcomes rfl (fun u hu => sX11_outcomes _ _ _ _ _ hu) (fun e => ite_ne (by unfold mX11_outcomes at e; exact e)) (sum_le (sum_I sum_nil) (by decide)) rfl (fun v14 h15 => ?_)
        refine j_iadd (q := 140) hx (dc kL_digest_1 15 rfl) rfl ?_
        exact r_iW hx hR (dc kL_digest_1 16 rfl)
      · refine j_bipush (q := 113) (v := (31 : Int32)) hx (dc kL_digest_0 63 rfl) (by decide) rfl ?_
        refine j_iload_n (q := 114) hx (dc kL_digest_1 0 rfl) rfl 1 rfl rfl ?_
        refine j_imul (q := 115) hx (dc kL_digest_1 1 rfl) rfl ?_
        refine j_aload_n (q := 116) hx (dc kL_digest_1 2 rfl) rfl 0 rfl rfl ?_
        refine j_iload_n (q := 117) hx (dc kL_digest_1 3 rfl) rfl 2 rfl rfl ?_
        refine w_cVIW (q := 120) (As := [.int x2]) (st := [.int ((31 : Int32) * x1)]) hx (dc kL_digest_1 4 rfl) cf15 (by decide) rfl (cI _ my_L_numbers lm_L_274 (by decide)) vs_L_numbers rfl (fun u hu => sL_numbers _ _ _ _ _ _ hu) (fun e => ite_ne (by unfold mL_numbers at e; exact e)) (sum_le (sum_I sum_nil) (by decide)) rfl (fun v16 h17 => ?_)
        refine j_iadd (q := 121) hx (dc kL_digest_1 5 rfl) rfl ?_
        refine j_istore_n (q := 122) (i := 1) (l2 := [(0, vR x.2.2.2 x0), (2, .int x2)]) hx (dc kL_digest_1 6 rfl) rfl (hn 1 (by decide)) [0, 2] rfl ⟨⟨show (0 : Nat) ≠ 1 by decide, Or.inr (vR_cat _ _)⟩, ⟨⟨show (2 : Nat) ≠ 1 by decide, Or.inl (show (2 : Nat) + 1 ≠ 1 by decide)⟩, trivial⟩⟩ rfl ?_
        refine j_iinc (q := 125) (l2 := [(1, .int (((31 : Int32) * x1) + v16)), (0, vR x.2.2.2 x0)]) hx (dc kL_digest_1 7 rfl) 2 rfl (v := (1 : Int32)) (by decide) (hn 2 (by decide)) [0, 1] rfl ⟨⟨show (1 : Nat) ≠ 2 by decide, Or.inr rfl⟩, ⟨⟨show (0 : Nat) ≠ 2 by decide, Or.inl (show (0 : Nat) + 1 ≠ 2 by decide)⟩, trivial⟩⟩ rfl ?_
        refine j_goto (q := 99) hx (dc kL_digest_1 8 rfl) (by decide) ?_
        exact j_back [2, 1, 0] ((((31 : Int32) * x1) + v16), (x2 + (1 : Int32)), h17) rfl rfl
    exact j_loop (S := (Int32 × Int32 × Hp)) (lvf := fun s => [(0, vR x.2.2.2 x0), (1, .int s.1), (2, .int s.2.1)]) (hpf := fun s => s.2.2) (f := (fun s : (Int32 × Int32 × Hp) => mL_digest_l99f x0 s.1 s.2.1 s.2.2)) (fun s => hB s.1 s.2.1 s.2.2) (x1, x2, h)
  have hb51 : ∀ (x0 : Nat) (x1 : Int32) (x2 : Int32) (h : Hp), J x 51 [(0, vR x.2.2.2 x0), (1, .int x1), (2, .int x2)] [] h (mL_digest_l51 x0 x1 x2 h) (fun r => r = u) := by
    intro x0 x1 x2 h
    have hB : ∀ (x1 : Int32) (x2 : Int32) (h : Hp), J x 51 [(0, vR x.2.2.2 x0), (1, .int x1), (2, .int x2)] [] h (mL_digest_l51f x0 x1 x2 h) (TLo (S := (Int32 × Int32 × Hp)) x 51 (fun s => [(0, vR x.2.2.2 x0), (1, .int s.1), (2, .int s.2.1)]) [] (fun s => s.2.2) (fun r => r = u)) := by
      intro x1 x2 h
      have hb65 : ∀ (x0 : Nat) (x1 : Int32) (x2 : Int32) (x3 : Int32) (h : Hp), J x 65 [(0, vR x.2.2.2 x0), (1, .int x1), (2, .int x2), (3, .int x3)] [] h (mL_digest_l65 x0 x1 x2 x3 h) (TLo (S := (Int32 × Int32 × Hp)) x 51 (fun s => [(0, vR x.2.2.2 x0), (1, .int s.1), (2, .int s.2.1)]) [] (fun s => s.2.2) (fun r => r = u)) := by
        intro x0 x1 x2 x3 h
        have hB : ∀ (x1 : Int32) (x3 : Int32), J x 65 [(0, vR x.2.2.2 x0), (1, .int x1), (2, .int x2), (3, .int x3)] [] h (mL_digest_l65f x0 x2 h x1 x3) (TLo (S := (Int32 × Int32)) x 65 (fun s => [(0, vR x.2.2.2 x0), (1, .int s.1), (2, .int x2), (3, .int s.2)]) [] (fun s => h) (TLo (S := (Int32 × Int32 × Hp)) x 51 (fun s => [(0, vR x.2.2.2 x0), (1, .int s.1), (2, .int s.2.1)]) [] (fun s => s.2.2) (fun r => r = u))) := by
          intro x1 x3
          unfold mL_digest_l65f
          refine j_iload_n (q := 66) hx (dc kL_digest_0 38 rfl) rfl 3 rfl rfl ?_
          refine j_iconst (q := 67) (v := (4 : Int32)) hx (dc kL_digest_0 39 rfl) (by decide) rfl ?_
          refine j_icmp_geS (q := 70) (tgt := 91) hx (dc kL_digest_0 40 rfl) (by decide) rfl ?_ ?_
          · refine j_exit ?_
            refine j_iinc (q := 94) (l2 := [(0, vR x.2.2.2 x0), (1, .int x1)]) hx (dc kL_digest_0 53 rfl) 2 rfl (v := (1 : Int32)) (by decide) (hn 2 (by decide)) [0, 1] rfl ⟨⟨show (0 : Nat) ≠ 2 by decide, Or.inl (show (0 : Nat) + 1 ≠ 2 by decide)⟩, ⟨⟨show (1 : Nat) ≠ 2 by decide, Or.inr rfl⟩, trivial⟩⟩ rfl ?_
            refine j_goto (q := 51) hx (dc kL_digest_0 54 rfl) (by decide) ?_
            exact j_back [1, 2, 0] (x1, (x2 + (1 : Int32)), h) rfl rfl
          · refine j_bipush (q := 72) (v := (31 : Int32)) hx (dc kL_digest_0 41 rfl) (by decide) rfl ?_
            refine j_iload_n (q := 73) hx (dc kL_digest_0 42 rfl) rfl 1 rfl rfl ?_
            refine j_imul (q := 74) hx (dc kL_digest_0 43 rfl) rfl ?_
            refine j_aload_n (q := 75) hx (dc kL_digest_0 44 rfl) rfl 0 rfl rfl ?_
            refine w_gR (q := 78) hx (dc kL_digest_0 45 rfl) ff_L_0 lk_L_10 rfl (fun v18 => ?_)
            refine j_iload_n (q := 79) hx (dc kL_digest_0 46 rfl) rfl 2 rfl rfl ?_
            refine j_iload_n (q := 80) hx (dc kL_digest_0 47 rfl) rfl 3 rfl rfl ?_
            refine w_cVIR (q := 83) (As := [.int x2, .int x3]) (st := [.int ((31 : Int32) * x1)]) hx (dc kL_digest_0 48 rfl) cf11 (by decide) rfl (cI _ my_X11_fact lm_L_272 (by decide)) vs_X11_fact rfl (fun u hu => sX11_fact _ _ _ _ _ _ _ hu) (fun e => ite_ne (by unfold mX11_fact at e; exact e)) (sum_le (sum_I sum_nil) (by decide)) rfl (fun v19 => ?_)
            refine j_iadd (q := 84) hx (dc kL_digest_0 49 rfl) rfl ?_
            refine j_istore_n (q := 85) (i := 1) (l2 := [(0, vR x.2.2.2 x0), (2, .int x2), (3, .int x3)]) hx (dc kL_digest_0 50 rfl) rfl (hn 1 (by decide)) [0, 2, 3] rfl ⟨⟨show (0 : Nat) ≠ 1 by decide, Or.inr (vR_cat _ _)⟩, ⟨⟨show (2 : Nat) ≠ 1 by decide, Or.inl (show (2 : Nat) + 1 ≠ 1 by decide)⟩, ⟨⟨show (3 : Nat) ≠ 1 by decide, Or.inl (show (3 : Nat) + 1 ≠ 1 by decide)⟩, trivial⟩⟩⟩ rfl ?_
            refine j_iinc (q := 88) (l2 := [(1, .int (((31 : Int32) * x1) + v19)), (0, vR x.2.2.2 x0), (2, .int x2)]) hx (dc kL_digest_0 51 rfl) 3 rfl (v := (1 : Int32)) (by decide) (hn 3 (by decide)) [0, 1, 2] rfl ⟨⟨show (1 : Nat) ≠ 3 by decide, Or.inl (show (1 : Nat) + 1 ≠ 3 by decide)⟩, ⟨⟨show (0 : Nat) ≠ 3 by decide, Or.inl (show (0 : Nat) + 1 ≠ 3 by decide)⟩, ⟨⟨show (2 : Nat) ≠ 3 by decide, Or.inr rfl⟩, trivial⟩⟩⟩ rfl ?_
            refine j_goto (q := 65) hx (dc kL_digest_0 52 rfl) (by decide) ?_
            exact j_back [2, 1, 3, 0] ((((31 : Int32) * x1) + v19), (x3 + (1 : Int32))) rfl rfl
        exact j_loop (S := (Int32 × Int32)) (lvf := fun s => [(0, vR x.2.2.2 x0), (1, .int s.1), (2, .int x2), (3, .int s.2)]) (hpf := fun s => h) (f := (fun s : (Int32 × Int32) => mL_digest_l65f x0 x2 h s.1 s.2)) (fun s => hB s.1 s.2) (x1, x3)
      unfold mL_digest_l51f
      refine j_iload_n (q := 52) hx (dc kL_digest_0 30 rfl) rfl 2 rfl rfl ?_
      refine j_aload_n (q := 53) hx (dc kL_digest_0 31 rfl) rfl 0 rfl rfl ?_
      refine w_gR (q := 56) hx (dc kL_digest_0 32 rfl) ff_L_0 lk_L_10 rfl (fun v7 => ?_)
      refine j_iconst (q := 57) (v := (1 : Int32)) hx (dc kL_digest_0 33 rfl) (by decide) rfl ?_
      refine w_cVIW (q := 60) (As := [.int (1 : Int32)]) (st := [.int x2]) hx (dc kL_digest_0 34 rfl) cf11 (by decide) rfl (cI _ my_X11_count lm_L_251 (by decide)) vs_X11_count rfl (fun u hu => sX11_count _ _ _ _ _ _ hu) (fun e => ite_ne (by unfold mX11_count at e; exact e)) (sum_le (sum_I sum_nil) (by decide)) rfl (fun v8 h9 => ?_)
      refine j_icmp_geS (q := 63) (tgt := 97) hx (dc kL_digest_0 35 rfl) (by decide) rfl ?_ ?_
      · refine j_exit ?_
        refine j_iconst (q := 98) (v := (0 : Int32)) hx (dc kL_digest_0 55 rfl) (by decide) rfl ?_
        refine j_istore_n (q := 99) (i := 2) (l2 := [(0, vR x.2.2.2 x0), (1, .int x1)]) hx (dc kL_digest_0 56 rfl) rfl (hn 2 (by decide)) [0, 1] rfl ⟨⟨show (0 : Nat) ≠ 2 by decide, Or.inl (show (0 : Nat) + 1 ≠ 2 by decide)⟩, ⟨⟨show (1 : Nat) ≠ 2 by decide, Or.inr rfl⟩, trivial⟩⟩ rfl ?_
        exact j_sub [1, 2, 0] rfl (hb99 x0 x1 (0 : Int32) h9)
      · refine j_iconst (q := 64) (v := (0 : Int32)) hx (dc kL_digest_0 36 rfl) (by decide) rfl ?_
        refine j_istore_n (q := 65) (i := 3) (l2 := [(0, vR x.2.2.2 x0), (1, .int x1), (2, .int x2)]) hx (dc kL_digest_0 37 rfl) rfl (hn 3 (by decide)) [0, 1, 2] rfl ⟨⟨show (0 : Nat) ≠ 3 by decide, Or.inl (show (0 : Nat) + 1 ≠ 3 by decide)⟩, ⟨⟨show (1 : Nat) ≠ 3 by decide, Or.inl (show (1 : Nat) + 1 ≠ 3 by decide)⟩, ⟨⟨show (2 : Nat) ≠ 3 by decide, Or.inr rfl⟩, trivial⟩⟩⟩ rfl ?_
        exact j_sub [1, 2, 3, 0] rfl (hb65 x0 x1 x2 (0 : Int32) h9)
    exact j_loop (S := (Int32 × Int32 × Hp)) (lvf := fun s => [(0, vR x.2.2.2 x0), (1, .int s.1), (2, .int s.2.1)]) (hpf := fun s => s.2.2) (f := (fun s : (Int32 × Int32 × Hp) => mL_digest_l51f x0 s.1 s.2.1 s.2.2)) (fun s => hB s.1 s.2.1 s.2.2) (x1, x2, h)
  have hb23 : ∀ (x0 : Nat) (x1 : Int32) (x2 : Int32) (h : Hp), J x 23 [(0, vR x.2.2.2 x0), (1, .int x1), (2, .int x2)] [] h (mL_digest_l23 x0 x1 x2 h) (fun r => r = u) := by
    intro x0 x1 x2 h
    have hB : ∀ (x1 : Int32) (x2 : Int32) (h : Hp), J x 23 [(0, vR x.2.2.2 x0), (1, .int x1), (2, .int x2)] [] h (mL_digest_l23f x0 x1 x2 h) (TLo (S := (Int32 × Int32 × Hp)) x 23 (fun s => [(0, vR x.2.2.2 x0), (1, .int s.1), (2, .int s.2.1)]) [] (fun s => s.2.2) (fun r => r = u)) := by
      intro x1 x2 h
      unfold mL_digest_l23f
      refine j_iload_n (q := 24) hx (dc kL_digest_0 14 rfl) rfl 2 rfl rfl ?_
      refine j_bipush (q := 26) (v := (7 : Int32)) hx (dc kL_digest_0 15 rfl) (by decide) rfl ?_
      refine j_icmp_geS (q := 29) (tgt := 49) hx (dc kL_digest_0 16 rfl) (by decide) rfl ?_ ?_
      · refine j_exit ?_
        refine j_iconst (q := 50) (v := (0 : Int32)) hx (dc kL_digest_0 28 rfl) (by decide) rfl ?_
        refine j_istore_n (q := 51) (i := 2) (l2 := [(0, vR x.2.2.2 x0), (1, .int x1)]) hx (dc kL_digest_0 29 rfl) rfl (hn 2 (by decide)) [0, 1] rfl ⟨⟨show (0 : Nat) ≠ 2 by decide, Or.inl (show (0 : Nat) + 1 ≠ 2 by decide)⟩, ⟨⟨show (1 : Nat) ≠ 2 by decide, Or.inr rfl⟩, trivial⟩⟩ rfl ?_
        exact j_sub [1, 2, 0] rfl (hb51 x0 x1 (0 : Int32) h)
      · refine j_bipush (q := 31) (v := (31 : Int32)) hx (dc kL_digest_0 17 rfl) (by decide) rfl ?_
        refine j_iload_n (q := 32) hx (dc kL_digest_0 18 rfl) rfl 1 rfl rfl ?_
        refine j_imul (q := 33) hx (dc kL_digest_0 19 rfl) rfl ?_
        refine j_aload_n (q := 34) hx (dc kL_digest_0 20 rfl) rfl 0 rfl rfl ?_
        refine w_gR (q := 37) hx (dc kL_digest_0 21 rfl) ff_L_0 lk_L_10 rfl (fun v21 => ?_)
        refine j_iload_n (q := 38) hx (dc kL_digest_0 22 rfl) rfl 2 rfl rfl ?_
        refine w_cVIW (q := 41) (As := [.int x2]) (st := [.int ((31 : Int32) * x1)]) hx (dc kL_digest_0 23 rfl) cf11 (by decide) rfl (cI _ my_X11_count lm_L_251 (by decide)) vs_X11_count rfl (fun u hu => sX11_count _ _ _ _ _ _ hu) (fun e => ite_ne (by unfold mX11_count at e; exact e)) (sum_le (sum_I sum_nil) (by decide)) rfl (fun v22 h23 => ?_)
        refine j_iadd (q := 42) hx (dc kL_digest_0 24 rfl) rfl ?_
        refine j_istore_n (q := 43) (i := 1) (l2 := [(0, vR x.2.2.2 x0), (2, .int x2)]) hx (dc kL_digest_0 25 rfl) rfl (hn 1 (by decide)) [0, 2] rfl ⟨⟨show (0 : Nat) ≠ 1 by decide, Or.inr (vR_cat _ _)⟩, ⟨⟨show (2 : Nat) ≠ 1 by decide, Or.inl (show (2 : Nat) + 1 ≠ 1 by decide)⟩, trivial⟩⟩ rfl ?_
        refine j_iinc (q := 46) (l2 := [(1, .int (((31 : Int32) * x1) + v22)), (0, vR x.2.2.2 x0)]) hx (dc kL_digest_0 26 rfl) 2 rfl (v := (1 : Int32)) (by decide) (hn 2 (by decide)) [0, 1] rfl ⟨⟨show (1 : Nat) ≠ 2 by decide, Or.inr rfl⟩, ⟨⟨show (0 : Nat) ≠ 2 by decide, Or.inl (show (0 : Nat) + 1 ≠ 2 by decide)⟩, trivial⟩⟩ rfl ?_
        refine j_goto (q := 23) hx (dc kL_digest_0 27 rfl) (by decide) ?_
        exact j_back [2, 1, 0] ((((31 : Int32) * x1) + v22), (x2 + (1 : Int32)), h23) rfl rfl
    exact j_loop (S := (Int32 × Int32 × Hp)) (lvf := fun s => [(0, vR x.2.2.2 x0), (1, .int s.1), (2, .int s.2.1)]) (hpf := fun s => s.2.2) (f := (fun s : (Int32 × Int32 × Hp) => mL_digest_l23f x0 s.1 s.2.1 s.2.2)) (fun s => hB s.1 s.2.1 s.2.2) (x1, x2, h)
  unfold mL_digest
  refine J.ckd fun hck => ?_
  refine j_bipush (q := 2) (v := (31 : Int32)) hx (dc kL_digest_0 0 rfl) (by decide) rfl ?_
  refine j_aload_n (q := 3) hx (dc kL_digest_0 1 rfl) rfl 0 rfl rfl ?_
  refine w_gR (q := 6) hx (dc kL_digest_0 2 rfl) ff_L_0 lk_L_10 rfl (fun v1 => ?_)
  refine j_iconst (q := 7) (v := (1 : Int32)) hx (dc kL_digest_0 3 rfl) (by decide) rfl ?_
  refine w_cVIW (q := 10) (As := [.int (1 : Int32)]) (st := [.int (31 : Int32)]) hx (dc kL_digest_0 4 rfl) cf11 (by decide) rfl (cI _ my_X11_worlds lm_L_266 (by decide)) vs_X11_worlds rfl (fun u hu => sX11_worlds _ _ _ _ _ _ hu) (fun e => ite_ne (by unfold mX11_worlds at e; exact e)) (sum_le (sum_I sum_nil) (by decide)) rfl (fun v2 h3 => ?_)
  refine j_imul (q := 11) hx (dc kL_digest_0 5 rfl) rfl ?_
  refine j_aload_n (q := 12) hx (dc kL_digest_0 6 rfl) rfl 0 rfl rfl ?_
  refine w_gR (q := 15) hx (dc kL_digest_0 7 rfl) ff_L_0 lk_L_10 rfl (fun v4 => ?_)
  refine j_iconst (q := 16) (v := (1 : Int32)) hx (dc kL_digest_0 8 rfl) (by decide) rfl ?_
  refine w_cVIW (q := 19) (As := [.int (1 : Int32)]) (st := [.int ((31 : Int32) * v2)]) hx (dc kL_digest_0 9 rfl) cf11 (by decide) rfl (cI _ my_X11_award lm_L_269 (by decide)) vs_X11_award rfl (fun u hu => sX11_award _ _ _ _ _ _ hu) (fun e => ite_ne (by unfold mX11_award at e; exact e)) (sum_le (sum_I sum_nil) (by decide)) rfl (fun v5 h6 => ?_)
  refine j_iadd (q := 20) hx (dc kL_digest_0 10 rfl) rfl ?_
  refine j_istore_n (q := 21) (i := 1) (l2 := [(0, vR x.2.2.2 x0)]) hx (dc kL_digest_0 11 rfl) rfl (hn 1 (by decide)) [0] rfl ⟨⟨show (0 : Nat) ≠ 1 by decide, Or.inr (vR_cat _ _)⟩, trivial⟩ rfl ?_
  refine j_iconst (q := 22) (v := (0 : Int32)) hx (dc kL_digest_0 12 rfl) (by decide) rfl ?_
  refine j_istore_n (q := 23) (i := 2) (l2 := [(1, .int (((31 : Int32) * v2) + v5)), (0, vR x.2.2.2 x0)]) hx (dc kL_digest_0 13 rfl) rfl (hn 2 (by decide)) [0, 1] rfl ⟨⟨show (1 : Nat) ≠ 2 by decide, Or.inr rfl⟩, ⟨⟨show (0 : Nat) ≠ 2 by decide, Or.inl (show (0 : Nat) + 1 ≠ 2 by decide)⟩, trivial⟩⟩ rfl ?_
  exact j_sub [2, 1, 0] rfl (hb23 x0 (((31 : Int32) * v2) + v5) (0 : Int32) h6)

set_option maxHeartbeats 4000000 in
set_option maxRecDepth 100000 in
theorem sL_makes (l : Launch) (w : Wd) (x0 : Nat) (x1 : Int32) (x2 : Int32) (h : Hp) (u : (Int32 × Hp)) (hK : mL_makes x0 x1 x2 h = some u) : M1 l w mi_L_makes 8 [vR w x0, .int x1, .int x2] h u.2 (some (.int u.1)) := by
  refine M1.of (own := RL) (T := fun _ r => r = u) hK (by decide +kernel) rfl (by first | (simp only [lg_lenR, lg_lenI, lg_lenL, lg_len0]; decide) | decide) (fun x hx hnl hhf hl hw hret hnm hQ h0e => ⟨?_, rfl⟩)
  subst hw
  subst hl
  have hR : Rt x h u.2 (some (.int u.1)) ((some .boolean)) := ⟨h0e, hhf, hret, hQ⟩
  have hn : ∀ i, i < 3 → i < x.2.2.1.1.1 := fun i hi => by rw [hnl]; exact hi
  have e0 : lv_args 0 [vR x.2.2.2 x0, .int x1, .int x2] = [(0, vR x.2.2.2 x0), (1, .int x1), (2, .int x2)] := by simp only [lv_argsR, lv_argsI, lv_argsL, lv_args0]
  rw [e0]
  have hb27 : ∀ (t0 : Nat) (t1 : Int32) (t2 : Int32) (h : Hp), J x 27 [] [.int t2, .int t1, vR x.2.2.2 t0] h (mL_makes_b27 t0 t1 t2 h) (fun r => r = u) := by
    intro t0 t1 t2 h
    unfold mL_makes_b27
    refine w_cVIW (q := 30) (As := [.int t1, .int t2]) (st := []) hx (dc kL_makes_0 15 rfl) cf11 (by decide) rfl (cI _ my_X11_find lm_L_280 (by decide)) vs_X11_find rfl (fun u hu => sX11_find _ _ _ _ _ _ _ hu) (fun e => ite_ne (by unfold mX11_find at e; exact e)) (Nat.zero_le _) rfl (fun v8 h9 => ?_)
    refine j_if_lt (q := 33) (tgt := 37) hx (dc kL_makes_0 16 rfl) (by decide) Iff.rfl rfl ?_ ?_
    · refine j_iconst (q := 38) (v := (0 : Int32)) hx (dc kL_makes_0 19 rfl) (by decide) rfl ?_
      refine j_goto (q := 58) hx (dc kL_makes_0 20 rfl) (by decide) ?_
      exact r_cW hx (Or.inl rfl) hR (dc kL_makes_0 30 rfl)
    · refine j_iconst (q := 34) (v := (1 : Int32)) hx (dc kL_makes_0 17 rfl) (by decide) rfl ?_
      refine j_goto (q := 58) hx (dc kL_makes_0 18 rfl) (by decide) ?_
      exact r_cW hx (Or.inr rfl) hR (dc kL_makes_0 30 rfl)
  unfold mL_makes
  refine J.ckd fun hck => ?_
  refine j_aload_n (q := 1) hx (dc kL_makes_0 0 rfl) rfl 0 rfl rfl ?_
  refine w_gR (q := 4) hx (dc kL_makes_0 1 rfl) ff_L_0 lk_L_10 rfl (fun v1 => ?_)
  refine j_iconst (q := 5) (v := (5 : Int32)) hx (dc kL_makes_0 2 rfl) (by decide) rfl ?_
  refine w_cVIW (q := 8) (As := [.int (5 : Int32)]) (st := []) hx (dc kL_makes_0 3 rfl) cf11 (by decide) rfl (cI _ my_X11_count lm_L_251 (by decide)) vs_X11_count rfl (fun u hu => sX11_count _ _ _ _ _ _ hu) (fun e => ite_ne (by unfold mX11_count at e; exact e)) (Nat.zero_le _) rfl (fun v2 h3 => ?_)
  refine j_iconst (q := 9) (v := (1 : Int32)) hx (dc kL_makes_0 4 rfl) (by decide) rfl ?_
  refine j_icmp_neS (q := 12) (tgt := 41) hx (dc kL_makes_0 5 rfl) (by decide) rfl ?_ ?_
  · refine j_aload_n (q := 42) hx (dc kL_makes_0 21 rfl) rfl 0 rfl rfl ?_
    refine w_gR (q := 45) hx (dc kL_makes_0 22 rfl) ff_L_0 lk_L_10 rfl (fun v4 => ?_)
    refine j_iload_n (q := 46) hx (dc kL_makes_0 23 rfl) rfl 1 rfl rfl ?_
    refine j_iload_n (q := 47) hx (dc kL_makes_0 24 rfl) rfl 2 rfl rfl ?_
    refine w_cVIW (q := 50) (As := [.int x1, .int x2]) (st := []) hx (dc kL_makes_0 25 rfl) cf11 (by decide) rfl (cI _ my_X11_answer lm_L_284 (by decide)) vs_X11_answer rfl (fun u hu => sX11_answer _ _ _ _ _ _ _ hu) (fun e => ite_ne (by unfold mX11_answer at e; exact e)) (Nat.zero_le _) rfl (fun v5 h6 => ?_)
    refine j_if_lt (q := 53) (tgt := 57) hx (dc kL_makes_0 26 rfl) (by decide) Iff.rfl rfl ?_ ?_
    · refine j_iconst (q := 58) (v := (0 : Int32)) hx (dc kL_makes_0 29 rfl) (by decide) rfl ?_
      exact r_cW hx (Or.inl rfl) hR (dc kL_makes_0 30 rfl)
    · refine j_iconst (q := 54) (v := (1 : Int32)) hx (dc kL_makes_0 27 rfl) (by decide) rfl ?_
      refine j_goto (q := 58) hx (dc kL_makes_0 28 rfl) (by decide) ?_
      exact r_cW hx (Or.inr rfl) hR (dc kL_makes_0 30 rfl)
  · refine j_aload_n (q := 13) hx (dc kL_makes_0 6 rfl) rfl 0 rfl rfl ?_
    refine w_gR (q := 16) hx (dc kL_makes_0 7 rfl) ff_L_0 lk_L_10 rfl (fun v7 => ?_)
    refine j_iload_n (q := 17) hx (dc kL_makes_0 8 rfl) rfl 1 rfl rfl ?_
    refine j_iload_n (q := 18) hx (dc kL_makes_0 9 rfl) rfl 2 rfl rfl ?_
    refine j_iconst (q := 19) (v := (1 : Int32)) hx (dc kL_makes_0 10 rfl) (by decide) rfl ?_
    refine j_icmp_neS (q := 22) (tgt := 26) hx (dc kL_makes_0 11 rfl) (by decide) rfl ?_ ?_
    · refine j_iconst (q := 27) (v := (0 : Int32)) hx (dc kL_makes_0 14 rfl) (by decide) rfl ?_
      exact j_sub [] rfl (hb27 v7 x1 (0 : Int32) h3)
    · refine j_iconst (q := 23) (v := (1 : Int32)) hx (dc kL_makes_0 12 rfl) (by decide) rfl ?_
      refine j_goto (q := 27) hx (dc kL_makes_0 13 rfl) (by decide) ?_
      exact j_sub [] rfl (hb27 v7 x1 (1 : Int32) h3)

set_option maxHeartbeats 4000000 in
set_option maxRecDepth 100000 in
theorem sL_taken (l : Launch) (w : Wd) (x0 : Nat) (x1 : Int32) (h : Hp) (u : (Int32 × Hp)) (hK : mL_taken x0 x1 h = some u) : M1 l w mi_L_taken 5 [vR w x0, .int x1] h u.2 (some (.int u.1)) := by
  refine M1.of (own := RL) (T := fun _ r => r = u) hK (by decide +kernel) rfl (by first | (simp only [lg_lenR, lg_lenI, lg_lenL, lg_len0]; decide) | decide) (fun x hx hnl hhf hl hw hret hnm hQ h0e => ⟨?_, rfl⟩)
  subst hw
  subst hl
  have hR : Rt x h u.2 (some (.int u.1)) ((some .boolean)) := ⟨h0e, hhf, hret, hQ⟩
  have hn : ∀ i, i < 3 → i < x.2.2.1.1.1 := fun i hi => by rw [hnl]; exact hi
  have e0 : lv_args 0 [vR x.2.2.2 x0, .int x1] = [(0, vR x.2.2.2 x0), (1, .int x1)] := by simp only [lv_argsR, lv_argsI, lv_argsL, lv_args0]
  rw [e0]
  have hb2 : ∀ (x0 : Nat) (x1 : Int32) (x2 : Int32) (h : Hp), J x 2 [(0, vR x.2.2.2 x0), (1, .int x1), (2, .int x2)] [] h (mL_taken_l2 x0 x1 x2 h) (fun r => r = u) := by
    intro x0 x1 x2 h
    have hB : ∀ (x2 : Int32) (h : Hp), J x 2 [(0, vR x.2.2.2 x0), (1, .int x1), (2, .int x2)] [] h (mL_taken_l2f x0 x1 x2 h) (TLo (S := (Int32 × Hp)) x 2 (fun s => [(0, vR x.2.2.2 x0), (1, .int x1), (2, .int s.1)]) [] (fun s => s.2) (fun r => r = u)) := by
      intro x2 h
      unfold mL_taken_l2f
      refine j_iload_n (q := 3) hx (dc kL_taken_0 2 rfl) rfl 2 rfl rfl ?_
      refine j_iload_n (q := 4) hx (dc kL_taken_0 3 rfl) rfl 1 rfl rfl ?_
      refine j_icmp_geS (q := 7) (tgt := 25) hx (dc kL_taken_0 4 rfl) (by decide) rfl ?_ ?_
      · refine j_exit ?_
        refine j_iconst (q := 26) (v := (1 : Int32)) hx (dc kL_taken_0 13 rfl) (by decide) rfl ?_
        exact r_cW hx (Or.inr rfl) hR (dc kL_taken_0 14 rfl)
      · refine j_aload_n (q := 8) hx (dc kL_taken_0 5 rfl) rfl 0 rfl rfl ?_
        refine w_gR (q := 11) hx (dc kL_taken_0 6 rfl) ff_L_0 lk_L_10 rfl (fun v1 => ?_)
        refine w_cVIW (q := 14) (As := []) (st := []) hx (dc kL_taken_0 7 rfl) cf11 (by decide) rfl (cI _ my_X11_undo lm_L_287 (by decide)) vs_X11_undo rfl (fun u hu => sX11_undo _ _ _ _ _ hu) (fun e => ite_ne (by unfold mX11_undo at e; exact e)) (Nat.zero_le _) rfl (fun v2 h3 => ?_)
        refine j_if_geS (q := 17) (tgt := 19) hx (dc kL_taken_0 8 rfl) (by decide) rfl ?_ ?_
        · refine j_iinc (q := 22) (l2 := [(0, vR x.2.2.2 x0), (1, .int x1)]) hx (dc kL_taken_0 11 rfl) 2 rfl (v := (1 : Int32)) (by decide) (hn 2 (by decide)) [0, 1] rfl ⟨⟨show (0 : Nat) ≠ 2 by decide, Or.inl (show (0 : Nat) + 1 ≠ 2 by decide)⟩, ⟨⟨show (1 : Nat) ≠ 2 by decide, Or.inr rfl⟩, trivial⟩⟩ rfl ?_
          refine j_goto (q := 2) hx (dc kL_taken_0 12 rfl) (by decide) ?_
          exact j_back [1, 2, 0] ((x2 + (1 : Int32)), h3) rfl rfl
        · refine j_exit ?_
          refine j_iconst (q := 18) (v := (0 : Int32)) hx (dc kL_taken_0 9 rfl) (by decide) rfl ?_
          exact r_cW hx (Or.inl rfl) hR (dc kL_taken_0 10 rfl)
    exact j_loop (S := (Int32 × Hp)) (lvf := fun s => [(0, vR x.2.2.2 x0), (1, .int x1), (2, .int s.1)]) (hpf := fun s => s.2) (f := (fun s : (Int32 × Hp) => mL_taken_l2f x0 x1 s.1 s.2)) (fun s => hB s.1 s.2) (x2, h)
  unfold mL_taken
  refine J.ckd fun hck => ?_
  refine j_iconst (q := 1) (v := (0 : Int32)) hx (dc kL_taken_0 0 rfl) (by decide) rfl ?_
  refine j_istore_n (q := 2) (i := 2) (l2 := [(0, vR x.2.2.2 x0), (1, .int x1)]) hx (dc kL_taken_0 1 rfl) rfl (hn 2 (by decide)) [0, 1] rfl ⟨⟨show (0 : Nat) ≠ 2 by decide, Or.inl (show (0 : Nat) + 1 ≠ 2 by decide)⟩, ⟨⟨show (1 : Nat) ≠ 2 by decide, Or.inr rfl⟩, trivial⟩⟩ rfl ?_
  exact j_sub [1, 2, 0] rfl (hb2 x0 x1 (0 : Int32) h)

set_option maxHeartbeats 4000000 in
set_option maxRecDepth 100000 in
theorem sL_acts (l : Launch) (w : Wd) (x0 : Nat) (x1 : Int32) (h : Hp) (u : (Int32 × Hp)) (hK : mL_acts x0 x1 h = some u) : M1 l w mi_L_acts 10 [vR w x0, .int x1] h u.2 (some (.int u.1)) := by
  refine M1.of (own := RL) (T := fun _ r => r = u) hK (by decide +kernel) rfl (by first | (simp only [lg_lenR, lg_lenI, lg_lenL, lg_len0]; decide) | decide) (fun x hx hnl hhf hl hw hret hnm hQ h0e => ⟨?_, rfl⟩)
  subst hw
  subst hl
  have hR : Rt x h u.2 (some (.int u.1)) ((some .boolean)) := ⟨h0e, hhf, hret, hQ⟩
  have hn : ∀ i, i < 8 → i < x.2.2.1.1.1 := fun i hi => by rw [hnl]; exact hi
  have e0 : lv_args 0 [vR x.2.2.2 x0, .int x1] = [(0, vR x.2.2.2 x0), (1, .int x1)] := by simp only [lv_argsR, lv_argsI, lv_argsL, lv_args0]
  rw [e0]
  have hb2 : ∀ (x0 : Nat) (x1 : Int32) (x2 : Int32) (h : Hp), J x 2 [(0, vR x.2.2.2 x0), (1, .int x1), (2, .int x2)] [] h (mL_acts_l2 x0 x1 x2 h) (fun r => r = u) := by
    intro x0 x1 x2 h
    have hB : ∀ (x2 : Int32) (h : Hp), J x 2 [(0, vR x.2.2.2 x0), (1, .int x1), (2, .int x2)] [] h (mL_acts_l2f x0 x1 x2 h) (TLo (S := (Int32 × Hp)) x 2 (fun s => [(0, vR x.2.2.2 x0), (1, .int x1), (2, .int s.1)]) [] (fun s => s.2) (fun r => r = u)) := by
      intro x2 h
      have hb370 : ∀ (x0 : Nat) (x1 : Int32) (x2 : Int32) (h : Hp), J x 370 [(0, vR x.2.2.2 x0), (1, .int x1), (2, .int x2)] [] h (mL_acts_b370 x0 x1 x2 h) (TLo (S := (Int32 × Hp)) x 2 (fun s => [(0, vR x.2.2.2 x0), (1, .int x1), (2, .int s.1)]) [] (fun s => s.2) (fun r => r = u)) := by
        intro x0 x1 x2 h
        unfold mL_acts_b370
        refine j_iinc (q := 373) (l2 := [(0, vR x.2.2.2 x0), (1, .int x1)]) hx (dc kL_acts_2 32 rfl) 2 rfl (v := (1 : Int32)) (by decide) (hn 2 (by decide)) [0, 1] rfl ⟨⟨show (0 : Nat) ≠ 2 by decide, Or.inl (show (0 : Nat) + 1 ≠ 2 by decide)⟩, ⟨⟨show (1 : Nat) ≠ 2 by decide, Or.inr rfl⟩, trivial⟩⟩ rfl ?_
        refine j_goto (q := 2) hx (dc kL_acts_2 33 rfl) (by decide) ?_
        exact j_back [1, 2, 0] ((x2 + (1 : Int32)), h) rfl rfl
      have hb320 : ∀ (x0 : Nat) (x1 : Int32) (x2 : Int32) (x3 : Int32) (x4 : Int32) (x7 : Int32) (h : Hp), J x 320 [(0, vR x.2.2.2 x0), (1, .int x1), (2, .int x2), (3, .int x3), (4, .int x4), (7, .int x7)] [] h (mL_acts_b320 x0 x1 x2 x3 x4 x7 h) (TLo (S := (Int32 × Hp)) x 2 (fun s => [(0, vR x.2.2.2 x0), (1, .int x1), (2, .int s.1)]) [] (fun s => s.2) (fun r => r = u)) := by
        intro x0 x1 x2 x3 x4 x7 h
        unfold mL_acts_b320
        refine j_iload (q := 322) hx (dc kL_acts_2 8 rfl) 5 rfl rfl ?_
        refine j_if_lt (q := 325) (tgt := 370) hx (dc kL_acts_2 9 rfl) (by decide) Iff.rfl rfl ?_ ?_
        · exact j_sub [0, 1, 2] rfl (hb370 x0 x1 x2 h)
        · refine j_aload_n (q := 326) hx (dc kL_acts_2 10 rfl) rfl 0 rfl rfl ?_
          refine j_iconst (q := 327) (v := (3 : Int32)) hx (dc kL_acts_2 11 rfl) (by decide) rfl ?_
          refine w_cVIW (q := 330) (As := [.int (3 : Int32)]) (st := []) hx (dc kL_acts_2 12 rfl) cf15 (by decide) rfl (cI _ my_L_draw lm_L_75 (by decide)) vs_L_draw rfl (fun u hu => sL_draw _ _ _ _ _ _ hu) (fun e => ite_ne (by unfold mL_draw at e; exact e)) (Nat.zero_le _) rfl (fun v28 h29 => ?_)
          refine j_if_neS (q := 333) (tgt := 370) hx (dc kL_acts_2 13 rfl) (by decide) rfl ?_ ?_
          · exact j_sub [0, 1, 2] rfl (hb370 x0 x1 x2 h29)
          · refine j_aload_n (q := 334) hx (dc kL_acts_2 14 rfl) rfl 0 rfl rfl ?_
            refine j_iconst (q := 335) (v := (1 : Int32)) hx (dc kL_acts_2 15 rfl) (by decide) rfl ?_
            refine w_cVIW (q := 338) (As := [.int (1 : Int32)]) (st := []) hx (dc kL_acts_2 16 rfl) cf15 (by decide) rfl (cI _ my_L_taken lm_L_313 (by decide)) vs_L_taken rfl (fun u hu => sL_taken _ _ _ _ _ _ hu) (fun e => ite_ne (by unfold mL_taken at e; exact e)) (Nat.zero_le _) rfl (fun v30 h31 => ?_)
            refine j_if_eq (q := 341) (tgt := 368) hx (dc kL_acts_2 17 rfl) (by decide) Iff.rfl rfl ?_ ?_
            · refine j_exit ?_
              refine j_iconst (q := 369) (v := (0 : Int32)) hx (dc kL_acts_2 30 rfl) (by decide) rfl ?_
              exact r_cW hx (Or.inl rfl) hR (dc kL_acts_2 31 rfl)
            · refine j_aload_n (q := 342) hx (dc kL_acts_2 18 rfl) rfl 0 rfl rfl ?_
              refine w_cVIW (q := 345) (As := []) (st := []) hx (dc kL_acts_2 19 rfl) cf15 (by decide) rfl (cI _ my_L_digest lm_L_290 (by decide)) vs_L_digest rfl (fun u hu => sL_digest _ _ _ _ _ hu) (fun e => ite_ne (by unfold mL_digest at e; exact e)) (Nat.zero_le _) rfl (fun v32 h33 => ?_)
              refine j_iload_n (q := 346) hx (dc kL_acts_2 20 rfl) rfl 3 rfl rfl ?_
              refine j_icmp_neS (q := 349) (tgt := 368) hx (dc kL_acts_2 21 rfl) (by decide) rfl ?_ ?_
              · refine j_exit ?_
                refine j_iconst (q := 369) (v := (0 : Int32)) hx (dc kL_acts_2 30 rfl) (by decide) rfl ?_
                exact r_cW hx (Or.inl rfl) hR (dc kL_acts_2 31 rfl)
              · refine j_aload_n (q := 350) hx (dc kL_acts_2 22 rfl) rfl 0 rfl rfl ?_
                refine w_gR (q := 353) hx (dc kL_acts_2 23 rfl) ff_L_0 lk_L_10 rfl (fun v34 => ?_)
                refine j_bipush (q := 355) (v := (7 : Int32)) hx (dc kL_acts_2 24 rfl) (by decide) rfl ?_
                refine w_cVIW (q := 358) (As := [.int (7 : Int32)]) (st := []) hx (dc kL_acts_2 25 rfl) cf11 (by decide) rfl (cI _ my_X11_count lm_L_251 (by decide)) vs_X11_count rfl (fun u hu => sX11_count _ _ _ _ _ _ hu) (fun e => ite_ne (by unfold mX11_count at e; exact e)) (Nat.zero_le _) rfl (fun v35 h36 => ?_)
                refine j_bipush (q := 360) (v := (15 : Int32)) hx (dc kL_acts_2 26 rfl) (by decide) rfl ?_
                refine j_iload (q := 362) hx (dc kL_acts_2 27 rfl) 4 rfl rfl ?_
                refine w_mmin (q := 365) hx (dc kL_acts_2 28 rfl) lm_L_310 ms_mmin ms_init mc_mmin (by decide) (sum_le (sum_I sum_nil) (by decide)) rfl ?_
                refine j_icmp_eq (q := 368) (tgt := 370) hx (dc kL_acts_2 29 rfl) (by decide) Iff.rfl rfl ?_ ?_
                · exact j_sub [0, 1, 2] rfl (hb370 x0 x1 x2 h36)
                · refine j_exit ?_
                  refine j_iconst (q := 369) (v := (0 : Int32)) hx (dc kL_acts_2 30 rfl) (by decide) rfl ?_
                  exact r_cW hx (Or.inl rfl) hR (dc kL_acts_2 31 rfl)
      have hb267 : ∀ (x0 : Nat) (x1 : Int32) (x2 : Int32) (x3 : Int32) (x4 : Int32) (x7 : Int32) (h : Hp), J x 267 [(0, vR x.2.2.2 x0), (1, .int x1), (2, .int x2), (3, .int x3), (4, .int x4), (7, .int x7)] [] h (mL_acts_b267 x0 x1 x2 x3 x4 x7 h) (TLo (S := (Int32 × Hp)) x 2 (fun s => [(0, vR x.2.2.2 x0), (1, .int x1), (2, .int s.1)]) [] (fun s => s.2) (fun r => r = u)) := by
        intro x0 x1 x2 x3 x4 x7 h
        unfold mL_acts_b267
        refine j_iload (q := 269) hx (dc kL_acts_1 47 rfl) 5 rfl rfl ?_
        refine j_if_geS (q := 272) (tgt := 297) hx (dc kL_acts_1 48 rfl) (by decide) rfl ?_ ?_
        · refine j_aload_n (q := 298) hx (dc kL_acts_1 60 rfl) rfl 0 rfl rfl ?_
          refine w_gR (q := 301) hx (dc kL_acts_1 61 rfl) ff_L_0 lk_L_10 rfl (fun v25 => ?_)
          refine j_bipush (q := 303) (v := (7 : Int32)) hx (dc kL_acts_1 62 rfl) (by decide) rfl ?_
          refine w_cVIW (q := 306) (As := [.int (7 : Int32)]) (st := []) hx (dc kL_acts_1 63 rfl) cf11 (by decide) rfl (cI _ my_X11_count lm_L_251 (by decide)) vs_X11_count rfl (fun u hu => sX11_count _ _ _ _ _ _ hu) (fun e => ite_ne (by unfold mX11_count at e; exact e)) (Nat.zero_le _) rfl (fun v26 h27 => ?_)
          refine j_bipush (q := 308) (v := (16 : Int32)) hx (dc kL_acts_2 0 rfl) (by decide) rfl ?_
          refine j_iload (q := 310) hx (dc kL_acts_2 1 rfl) 4 rfl rfl ?_
          refine j_iconst (q := 311) (v := (1 : Int32)) hx (dc kL_acts_2 2 rfl) (by decide) rfl ?_
          refine j_iadd (q := 312) hx (dc kL_acts_2 3 rfl) rfl ?_
          refine w_mmin (q := 315) hx (dc kL_acts_2 4 rfl) lm_L_310 ms_mmin ms_init mc_mmin (by decide) (sum_le (sum_I sum_nil) (by decide)) rfl ?_
          refine j_icmp_eq (q := 318) (tgt := 320) hx (dc kL_acts_2 5 rfl) (by decide) Iff.rfl rfl ?_ ?_
          · exact hb320 x0 x1 x2 x3 x4 x7 h27
          · refine j_exit ?_
            refine j_iconst (q := 319) (v := (0 : Int32)) hx (dc kL_acts_2 6 rfl) (by decide) rfl ?_
            exact r_cW hx (Or.inl rfl) hR (dc kL_acts_2 7 rfl)
        · refine j_aload_n (q := 273) hx (dc kL_acts_1 49 rfl) rfl 0 rfl rfl ?_
          refine w_cVIW (q := 276) (As := []) (st := []) hx (dc kL_acts_1 50 rfl) cf15 (by decide) rfl (cI _ my_L_digest lm_L_290 (by decide)) vs_L_digest rfl (fun u hu => sL_digest _ _ _ _ _ hu) (fun e => ite_ne (by unfold mL_digest at e; exact e)) (Nat.zero_le _) rfl (fun v37 h38 => ?_)
          refine j_iload_n (q := 277) hx (dc kL_acts_1 51 rfl) rfl 3 rfl rfl ?_
          refine j_icmp_neS (q := 280) (tgt := 318) hx (dc kL_acts_1 52 rfl) (by decide) rfl ?_ ?_
          · refine j_exit ?_
            refine j_iconst (q := 319) (v := (0 : Int32)) hx (dc kL_acts_2 6 rfl) (by decide) rfl ?_
            exact r_cW hx (Or.inl rfl) hR (dc kL_acts_2 7 rfl)
          · refine j_aload_n (q := 281) hx (dc kL_acts_1 53 rfl) rfl 0 rfl rfl ?_
            refine w_gR (q := 284) hx (dc kL_acts_1 54 rfl) ff_L_0 lk_L_10 rfl (fun v39 => ?_)
            refine j_bipush (q := 286) (v := (7 : Int32)) hx (dc kL_acts_1 55 rfl) (by decide) rfl ?_
            refine w_cVIW (q := 289) (As := [.int (7 : Int32)]) (st := []) hx (dc kL_acts_1 56 rfl) cf11 (by decide) rfl (cI _ my_X11_count lm_L_251 (by decide)) vs_X11_count rfl (fun u hu => sX11_count _ _ _ _ _ _ hu) (fun e => ite_ne (by unfold mX11_count at e; exact e)) (Nat.zero_le _) rfl (fun v40 h41 => ?_)
            refine j_iload (q := 291) hx (dc kL_acts_1 57 rfl) 4 rfl rfl ?_
            refine j_icmp_eq (q := 294) (tgt := 320) hx (dc kL_acts_1 58 rfl) (by decide) Iff.rfl rfl ?_ ?_
            · exact hb320 x0 x1 x2 x3 x4 x7 h41
            · refine j_exit ?_
              refine j_goto (q := 318) hx (dc kL_acts_1 59 rfl) (by decide) ?_
              refine j_iconst (q := 319) (v := (0 : Int32)) hx (dc kL_acts_2 6 rfl) (by decide) rfl ?_
              exact r_cW hx (Or.inl rfl) hR (dc kL_acts_2 7 rfl)
      have hb177 : ∀ (x0 : Nat) (x1 : Int32) (x2 : Int32) (x3 : Int32) (x4 : Int32) (t0 : Int32) (h : Hp), J x 177 [(0, vR x.2.2.2 x0), (1, .int x1), (2, .int x2), (3, .int x3), (4, .int x4)] [.int t0] h (mL_acts_b177 x0 x1 x2 x3 x4 t0 h) (TLo (S := (Int32 × Hp)) x 2 (fun s => [(0, vR x.2.2.2 x0), (1, .int x1), (2, .int s.1)]) [] (fun s => s.2) (fun r => r = u)) := by
        intro x0 x1 x2 x3 x4 t0 h
        unfold mL_acts_b177
        refine j_istore (q := 179) (i := 7) (l2 := [(0, vR x.2.2.2 x0), (1, .int x1), (2, .int x2), (3, .int x3), (4, .int x4)]) hx (dc kL_acts_1 7 rfl) (hn 7 (by decide)) [0, 1, 2, 3, 4] rfl ⟨⟨show (0 : Nat) ≠ 7 by decide, Or.inl (show (0 : Nat) + 1 ≠ 7 by decide)⟩, ⟨⟨show (1 : Nat) ≠ 7 by decide, Or.inl (show (1 : Nat) + 1 ≠ 7 by decide)⟩, ⟨⟨show (2 : Nat) ≠ 7 by decide, Or.inl (show (2 : Nat) + 1 ≠ 7 by decide)⟩, ⟨⟨show (3 : Nat) ≠ 7 by decide, Or.inl (show (3 : Nat) + 1 ≠ 7 by decide)⟩, ⟨⟨show (4 : Nat) ≠ 7 by decide, Or.inl (show (4 : Nat) + 1 ≠ 7 by decide)⟩, trivial⟩⟩⟩⟩⟩ rfl ?_
        refine j_goto (q := 267) hx (dc kL_acts_1 8 rfl) (by decide) ?_
        exact j_sub [1, 2, 3, 4, 5, 0] rfl (hb267 x0 x1 x2 x3 x4 t0 h)
      have hb174 : ∀ (x0 : Nat) (x1 : Int32) (x2 : Int32) (x3 : Int32) (x4 : Int32) (t0 : Nat) (t1 : Int32) (t2 : Int32) (h : Hp), J x 174 [(0, vR x.2.2.2 x0), (1, .int x1), (2, .int x2), (3, .int x3), (4, .int x4)] [.int t2, .int t1, vR x.2.2.2 t0] h (mL_acts_b174 x0 x1 x2 x3 x4 t0 t1 t2 h) (TLo (S := (Int32 × Hp)) x 2 (fun s => [(0, vR x.2.2.2 x0), (1, .int x1), (2, .int s.1)]) [] (fun s => s.2) (fun r => r = u)) := by
        intro x0 x1 x2 x3 x4 t0 t1 t2 h
        unfold mL_acts_b174
        refine w_cVIW (q := 177) (As := [.int t1, .int t2]) (st := []) hx (dc kL_acts_1 6 rfl) cf11 (by decide) rfl (cI _ my_X11_find lm_L_280 (by decide)) vs_X11_find rfl (fun u hu => sX11_find _ _ _ _ _ _ _ hu) (fun e => ite_ne (by unfold mX11_find at e; exact e)) (Nat.zero_le _) rfl (fun v60 h61 => ?_)
        exact hb177 x0 x1 x2 x3 x4 v60 h61
      have hb237 : ∀ (x0 : Nat) (x1 : Int32) (x2 : Int32) (x3 : Int32) (x4 : Int32) (t0 : Int32) (h : Hp), J x 237 [(0, vR x.2.2.2 x0), (1, .int x1), (2, .int x2), (3, .int x3), (4, .int x4)] [.int t0] h (mL_acts_b237 x0 x1 x2 x3 x4 t0 h) (TLo (S := (Int32 × Hp)) x 2 (fun s => [(0, vR x.2.2.2 x0), (1, .int x1), (2, .int s.1)]) [] (fun s => s.2) (fun r => r = u)) := by
        intro x0 x1 x2 x3 x4 t0 h
        unfold mL_acts_b237
        refine j_istore (q := 239) (i := 7) (l2 := [(0, vR x.2.2.2 x0), (1, .int x1), (2, .int x2), (3, .int x3), (4, .int x4)]) hx (dc kL_acts_1 34 rfl) (hn 7 (by decide)) [0, 1, 2, 3, 4] rfl ⟨⟨show (0 : Nat) ≠ 7 by decide, Or.inl (show (0 : Nat) + 1 ≠ 7 by decide)⟩, ⟨⟨show (1 : Nat) ≠ 7 by decide, Or.inl (show (1 : Nat) + 1 ≠ 7 by decide)⟩, ⟨⟨show (2 : Nat) ≠ 7 by decide, Or.inl (show (2 : Nat) + 1 ≠ 7 by decide)⟩, ⟨⟨show (3 : Nat) ≠ 7 by decide, Or.inl (show (3 : Nat) + 1 ≠ 7 by decide)⟩, ⟨⟨show (4 : Nat) ≠ 7 by decide, Or.inl (show (4 : Nat) + 1 ≠ 7 by decide)⟩, trivial⟩⟩⟩⟩⟩ rfl ?_
        refine j_goto (q := 267) hx (dc kL_acts_1 35 rfl) (by decide) ?_
        exact j_sub [1, 2, 3, 4, 5, 0] rfl (hb267 x0 x1 x2 x3 x4 t0 h)
      unfold mL_acts_l2f
      refine j_iload_n (q := 3) hx (dc kL_acts_0 2 rfl) rfl 2 rfl rfl ?_
      refine j_iload_n (q := 4) hx (dc kL_acts_0 3 rfl) rfl 1 rfl rfl ?_
      refine j_icmp_geS (q := 7) (tgt := 376) hx (dc kL_acts_0 4 rfl) (by decide) rfl ?_ ?_
      · refine j_exit ?_
        refine j_iconst (q := 377) (v := (1 : Int32)) hx (dc kL_acts_2 34 rfl) (by decide) rfl ?_
        exact r_cW hx (Or.inr rfl) hR (dc kL_acts_2 35 rfl)
      · refine j_aload_n (q := 8) hx (dc kL_acts_0 5 rfl) rfl 0 rfl rfl ?_
        refine w_cVIW (q := 11) (As := []) (st := []) hx (dc kL_acts_0 6 rfl) cf15 (by decide) rfl (cI _ my_L_digest lm_L_290 (by decide)) vs_L_digest rfl (fun u hu => sL_digest _ _ _ _ _ hu) (fun e => ite_ne (by unfold mL_digest at e; exact e)) (Nat.zero_le _) rfl (fun v1 h2 => ?_)
        refine j_istore_n (q := 12) (i := 3) (l2 := [(0, vR x.2.2.2 x0), (1, .int x1), (2, .int x2)]) hx (dc kL_acts_0 7 rfl) rfl (hn 3 (by decide)) [0, 1, 2] rfl ⟨⟨show (0 : Nat) ≠ 3 by decide, Or.inl (show (0 : Nat) + 1 ≠ 3 by decide)⟩, ⟨⟨show (1 : Nat) ≠ 3 by decide, Or.inl (show (1 : Nat) + 1 ≠ 3 by decide)⟩, ⟨⟨show (2 : Nat) ≠ 3 by decide, Or.inr rfl⟩, trivial⟩⟩⟩ rfl ?_
        refine j_aload_n (q := 13) hx (dc kL_acts_0 8 rfl) rfl 1 rfl rfl ?_
        refine w_gR (q := 16) hx (dc kL_acts_0 9 rfl) ff_L_0 lk_L_10 rfl (fun v3 => ?_)
        refine j_bipush (q := 18) (v := (7 : Int32)) hx (dc kL_acts_0 10 rfl) (by decide) rfl ?_
        refine w_cVIW (q := 21) (As := [.int (7 : Int32)]) (st := []) hx (dc kL_acts_0 11 rfl) cf11 (by decide) rfl (cI _ my_X11_count lm_L_251 (by decide)) vs_X11_count rfl (fun u hu => sX11_count _ _ _ _ _ _ hu) (fun e => ite_ne (by unfold mX11_count at e; exact e)) (Nat.zero_le _) rfl (fun v4 h5 => ?_)
        refine j_istore (q := 23) (i := 4) (l2 := [(3, .int v1), (0, vR x.2.2.2 x0), (1, .int x1), (2, .int x2)]) hx (dc kL_acts_0 12 rfl) (hn 4 (by decide)) [0, 1, 2, 3] rfl ⟨⟨show (3 : Nat) ≠ 4 by decide, Or.inr rfl⟩, ⟨⟨show (0 : Nat) ≠ 4 by decide, Or.inl (show (0 : Nat) + 1 ≠ 4 by decide)⟩, ⟨⟨show (1 : Nat) ≠ 4 by decide, Or.inl (show (1 : Nat) + 1 ≠ 4 by decide)⟩, ⟨⟨show (2 : Nat) ≠ 4 by decide, Or.inl (show (2 : Nat) + 1 ≠ 4 by decide)⟩, trivial⟩⟩⟩⟩ rfl ?_
        refine j_aload_n (q := 24) hx (dc kL_acts_0 13 rfl) rfl 2 rfl rfl ?_
        refine j_aload_n (q := 25) hx (dc kL_acts_0 14 rfl) rfl 2 rfl rfl ?_
        refine w_gI (q := 28) hx (dc kL_acts_0 15 rfl) ff_L_3 lk_L_87 rfl (fun v6 => ?_)
        refine j_iconst (q := 29) (v := (1 : Int32)) hx (dc kL_acts_0 16 rfl) (by decide) rfl ?_
        refine j_iadd (q := 30) hx (dc kL_acts_0 17 rfl) rfl ?_
        refine w_cVIW (q := 33) (As := [.int (v6 + (1 : Int32))]) (st := []) hx (dc kL_acts_0 18 rfl) cf15 (by decide) rfl (cI _ my_L_draw lm_L_75 (by decide)) vs_L_draw rfl (fun u hu => sL_draw _ _ _ _ _ _ hu) (fun e => ite_ne (by unfold mL_draw at e; exact e)) (Nat.zero_le _) rfl (fun v7 h8 => ?_)
        refine j_aload_n (q := 34) hx (dc kL_acts_0 19 rfl) rfl 2 rfl rfl ?_
        refine j_iconst (q := 35) (v := (2 : Int32)) hx (dc kL_acts_0 20 rfl) (by decide) rfl ?_
        refine w_cVIW (q := 38) (As := [.int (2 : Int32)]) (st := [.int v7]) hx (dc kL_acts_0 21 rfl) cf15 (by decide) rfl (cI _ my_L_draw lm_L_75 (by decide)) vs_L_draw rfl (fun u hu => sL_draw _ _ _ _ _ _ hu) (fun e => ite_ne (by unfold mL_draw at e; exact e)) (sum_le (sum_I sum_nil) (by decide)) rfl (fun v9 h10 => ?_)
        refine j_isub (q := 39) hx (dc kL_acts_0 22 rfl) rfl ?_
        refine j_istore (q := 41) (i := 5) (l2 := [(4, .int v4), (3, .int v1), (0, vR x.2.2.2 x0), (1, .int x1), (2, .int x2)]) hx (dc kL_acts_0 23 rfl) (hn 5 (by decide)) [0, 1, 2, 3, 4] rfl ⟨⟨show (4 : Nat) ≠ 5 by decide, Or.inr rfl⟩, ⟨⟨show (3 : Nat) ≠ 5 by decide, Or.inl (show (3 : Nat) + 1 ≠ 5 by decide)⟩, ⟨⟨show (0 : Nat) ≠ 5 by decide, Or.inl (show (0 : Nat) + 1 ≠ 5 by decide)⟩, ⟨⟨show (1 : Nat) ≠ 5 by decide, Or.inl (show (1 : Nat) + 1 ≠ 5 by decide)⟩, ⟨⟨show (2 : Nat) ≠ 5 by decide, Or.inl (show (2 : Nat) + 1 ≠ 5 by decide)⟩, trivial⟩⟩⟩⟩⟩ rfl ?_
        refine j_aload_n (q := 42) hx (dc kL_acts_0 24 rfl) rfl 3 rfl rfl ?_
        refine j_aload_n (q := 43) hx (dc kL_acts_0 25 rfl) rfl 3 rfl rfl ?_
        refine w_gR (q := 46) hx (dc kL_acts_0 26 rfl) ff_L_0 lk_L_10 rfl (fun v11 => ?_)
        refine j_iconst (q := 47) (v := (2 : Int32)) hx (dc kL_acts_0 27 rfl) (by decide) rfl ?_
        refine w_cVIW (q := 50) (As := [.int (2 : Int32)]) (st := [vR x.2.2.2 x0]) hx (dc kL_acts_0 28 rfl) cf11 (by decide) rfl (cI _ my_X11_count lm_L_251 (by decide)) vs_X11_count rfl (fun u hu => sX11_count _ _ _ _ _ _ hu) (fun e => ite_ne (by unfold mX11_count at e; exact e)) (sum_le (sum_R sum_nil) (by decide)) rfl (fun v12 h13 => ?_)
        refine j_iconst (q := 51) (v := (1 : Int32)) hx (dc kL_acts_0 29 rfl) (by decide) rfl ?_
        refine j_iadd (q := 52) hx (dc kL_acts_0 30 rfl) rfl ?_
        refine w_cVIW (q := 55) (As := [.int (v12 + (1 : Int32))]) (st := []) hx (dc kL_acts_0 31 rfl) cf15 (by decide) rfl (cI _ my_L_draw lm_L_75 (by decide)) vs_L_draw rfl (fun u hu => sL_draw _ _ _ _ _ _ hu) (fun e => ite_ne (by unfold mL_draw at e; exact e)) (Nat.zero_le _) rfl (fun v14 h15 => ?_)
        refine j_istore (q := 57) (i := 6) (l2 := [(5, .int (v7 - v9)), (4, .int v4), (3, .int v1), (0, vR x.2.2.2 x0), (1, .int x1), (2, .int x2)]) hx (dc kL_acts_0 32 rfl) (hn 6 (by decide)) [0, 1, 2, 3, 4, 5] rfl ⟨⟨show (5 : Nat) ≠ 6 by decide, Or.inr rfl⟩, ⟨⟨show (4 : Nat) ≠ 6 by decide, Or.inl (show (4 : Nat) + 1 ≠ 6 by decide)⟩, ⟨⟨show (3 : Nat) ≠ 6 by decide, Or.inl (show (3 : Nat) + 1 ≠ 6 by decide)⟩, ⟨⟨show (0 : Nat) ≠ 6 by decide, Or.inl (show (0 : Nat) + 1 ≠ 6 by decide)⟩, ⟨⟨show (1 : Nat) ≠ 6 by decide, Or.inl (show (1 : Nat) + 1 ≠ 6 by decide)⟩, ⟨⟨show (2 : Nat) ≠ 6 by decide, Or.inl (show (2 : Nat) + 1 ≠ 6 by decide)⟩, trivial⟩⟩⟩⟩⟩⟩ rfl ?_
        refine j_aload_n (q := 58) hx (dc kL_acts_0 33 rfl) rfl 4 rfl rfl ?_
        refine j_bipush (q := 60) (v := (8 : Int32)) hx (dc kL_acts_0 34 rfl) (by decide) rfl ?_
        refine w_cVIW (q := 63) (As := [.int (8 : Int32)]) (st := []) hx (dc kL_acts_0 35 rfl) cf15 (by decide) rfl (cI _ my_L_draw lm_L_75 (by decide)) vs_L_draw rfl (fun u hu => sL_draw _ _ _ _ _ _ hu) (fun e => ite_ne (by unfold mL_draw at e; exact e)) (Nat.zero_le _) rfl (fun v16 h17 => ?_)
        refine j_tsw (td := 242) hx (dc kL_acts_0 36 rfl) (by decide) (by decide) ?_ ?_
        · refine j_aload_n (q := 243) hx (dc kL_acts_1 36 rfl) rfl 4 rfl rfl ?_
          refine w_gR (q := 246) hx (dc kL_acts_1 37 rfl) ff_L_0 lk_L_10 rfl (fun v18 => ?_)
          refine j_iload (q := 248) hx (dc kL_acts_1 38 rfl) 0 rfl rfl ?_
          refine j_aload_n (q := 249) hx (dc kL_acts_1 39 rfl) rfl 4 rfl rfl ?_
          refine j_sipush (q := 252) (v := (1000 : Int32)) hx (dc kL_acts_1 40 rfl) (by decide) rfl ?_
          refine w_cVIW (q := 255) (As := [.int (1000 : Int32)]) (st := [.int v14, vR x.2.2.2 v18]) hx (dc kL_acts_1 41 rfl) cf15 (by decide) rfl (cI _ my_L_draw lm_L_75 (by decide)) vs_L_draw rfl (fun u hu => sL_draw _ _ _ _ _ _ hu) (fun e => ite_ne (by unfold mL_draw at e; exact e)) (sum_le (sum_I (sum_R sum_nil)) (by decide)) rfl (fun v19 h20 => ?_)
          refine j_aload_n (q := 256) hx (dc kL_acts_1 42 rfl) rfl 4 rfl rfl ?_
          refine j_sipush (q := 259) (v := (700 : Int32)) hx (dc kL_acts_1 43 rfl) (by decide) rfl ?_
          refine w_cVIW (q := 262) (As := [.int (700 : Int32)]) (st := [.int v19, .int v14, vR x.2.2.2 v18]) hx (dc kL_acts_1 44 rfl) cf15 (by decide) rfl (cI _ my_L_draw lm_L_75 (by decide)) vs_L_draw rfl (fun u hu => sL_draw _ _ _ _ _ _ hu) (fun e => ite_ne (by unfold mL_draw at e; exact e)) (sum_le (sum_I (sum_I (sum_R sum_nil))) (by decide)) rfl (fun v21 h22 => ?_)
          refine w_cVIW (q := 265) (As := [.int v14, .int v19, .int v21]) (st := []) hx (dc kL_acts_1 45 rfl) cf11 (by decide) rfl (cI _ my_X11_add lm_L_308 (by decide)) vs_X11_add rfl (fun u hu => sX11_add _ _ _ _ _ _ _ _ hu) (fun e => ite_ne (by unfold mX11_add at e; exact e)) (Nat.zero_le _) rfl (fun v23 h24 => ?_)
          refine j_istore (q := 267) (i := 7) (l2 := [(4, .int v4), (3, .int v1), (0, vR x.2.2.2 x0), (1, .int x1), (2, .int x2)]) hx (dc kL_acts_1 46 rfl) (hn 7 (by decide)) [2, 3, 4, 5, 6] rfl ⟨⟨show (4 : Nat) ≠ 7 by decide, Or.inl (show (4 : Nat) + 1 ≠ 7 by decide)⟩, ⟨⟨show (3 : Nat) ≠ 7 by decide, Or.inl (show (3 : Nat) + 1 ≠ 7 by decide)⟩, ⟨⟨show (0 : Nat) ≠ 7 by decide, Or.inl (show (0 : Nat) + 1 ≠ 7 by decide)⟩, ⟨⟨show (1 : Nat) ≠ 7 by decide, Or.inl (show (1 : Nat) + 1 ≠ 7 by decide)⟩, ⟨⟨show (2 : Nat) ≠ 7 by decide, Or.inl (show (2 : Nat) + 1 ≠ 7 by decide)⟩, trivial⟩⟩⟩⟩⟩ rfl ?_
          exact j_sub [3, 4, 5, 2, 1, 0] rfl (hb267 x0 x1 x2 v1 v4 v23 h24)
        · refine ⟨⟨104, by decide, ?_⟩, ⟨104, by decide, ?_⟩, ⟨123, by decide, ?_⟩, ⟨137, by decide, ?_⟩, ⟨182, by decide, ?_⟩, ⟨182, by decide, ?_⟩, ⟨203, by decide, ?_⟩, trivial⟩
          · refine j_aload_n (q := 105) hx (dc kL_acts_0 37 rfl) rfl 4 rfl rfl ?_
            refine w_gR (q := 108) hx (dc kL_acts_0 38 rfl) ff_L_0 lk_L_10 rfl (fun v42 => ?_)
            refine j_iload (q := 110) hx (dc kL_acts_0 39 rfl) 1 rfl rfl ?_
            refine j_aload_n (q := 111) hx (dc kL_acts_0 40 rfl) rfl 4 rfl rfl ?_
            refine j_iconst (q := 112) (v := (5 : Int32)) hx (dc kL_acts_0 41 rfl) (by decide) rfl ?_
            refine w_cVIW (q := 115) (As := [.int (5 : Int32)]) (st := [.int (v7 - v9), vR x.2.2.2 v42]) hx (dc kL_acts_0 42 rfl) cf15 (by decide) rfl (cI _ my_L_draw lm_L_75 (by decide)) vs_L_draw rfl (fun u hu => sL_draw _ _ _ _ _ _ hu) (fun e => ite_ne (by unfold mL_draw at e; exact e)) (sum_le (sum_I (sum_R sum_nil)) (by decide)) rfl (fun v43 h44 => ?_)
            refine w_cVIW (q := 118) (As := [.int (v7 - v9), .int v43]) (st := []) hx (dc kL_acts_0 43 rfl) cf11 (by decide) rfl (cI _ my_X11_answer lm_L_284 (by decide)) vs_X11_answer rfl (fun u hu => sX11_answer _ _ _ _ _ _ _ hu) (fun e => ite_ne (by unfold mX11_answer at e; exact e)) (Nat.zero_le _) rfl (fun v45 h46 => ?_)
            refine j_istore (q := 120) (i := 7) (l2 := [(4, .int v4), (3, .int v1), (0, vR x.2.2.2 x0), (1, .int x1), (2, .int x2)]) hx (dc kL_acts_0 44 rfl) (hn 7 (by decide)) [2, 3, 4, 5, 6] rfl ⟨⟨show (4 : Nat) ≠ 7 by decide, Or.inl (show (4 : Nat) + 1 ≠ 7 by decide)⟩, ⟨⟨show (3 : Nat) ≠ 7 by decide, Or.inl (show (3 : Nat) + 1 ≠ 7 by decide)⟩, ⟨⟨show (0 : Nat) ≠ 7 by decide, Or.inl (show (0 : Nat) + 1 ≠ 7 by decide)⟩, ⟨⟨show (1 : Nat) ≠ 7 by decide, Or.inl (show (1 : Nat) + 1 ≠ 7 by decide)⟩, ⟨⟨show (2 : Nat) ≠ 7 by decide, Or.inl (show (2 : Nat) + 1 ≠ 7 by decide)⟩, trivial⟩⟩⟩⟩⟩ rfl ?_
            refine j_goto (q := 267) hx (dc kL_acts_0 45 rfl) (by decide) ?_
            exact j_sub [3, 4, 5, 2, 1, 0] rfl (hb267 x0 x1 x2 v1 v4 v45 h46)
          · refine j_aload_n (q := 105) hx (dc kL_acts_0 37 rfl) rfl 4 rfl rfl ?_
            refine w_gR (q := 108) hx (dc kL_acts_0 38 rfl) ff_L_0 lk_L_10 rfl (fun v47 => ?_)
            refine j_iload (q := 110) hx (dc kL_acts_0 39 rfl) 1 rfl rfl ?_
            refine j_aload_n (q := 111) hx (dc kL_acts_0 40 rfl) rfl 4 rfl rfl ?_
            refine j_iconst (q := 112) (v := (5 : Int32)) hx (dc kL_acts_0 41 rfl) (by decide) rfl ?_
            refine w_cVIW (q := 115) (As := [.int (5 : Int32)]) (st := [.int (v7 - v9), vR x.2.2.2 v47]) hx (dc kL_acts_0 42 rfl) cf15 (by decide) rfl (cI _ my_L_draw lm_L_75 (by decide)) vs_L_draw rfl (fun u hu => sL_draw _ _ _ _ _ _ hu) (fun e => ite_ne (by unfold mL_draw at e; exact e)) (sum_le (sum_I (sum_R sum_nil)) (by decide)) rfl (fun v48 h49 => ?_)
            refine w_cVIW (q := 118) (As := [.int (v7 - v9), .int v48]) (st := []) hx (dc kL_acts_0 43 rfl) cf11 (by decide) rfl (cI _ my_X11_answer lm_L_284 (by decide)) vs_X11_answer rfl (fun u hu => sX11_answer _ _ _ _ _ _ _ hu) (fun e => ite_ne (by unfold mX11_answer at e; exact e)) (Nat.zero_le _) rfl (fun v50 h51 => ?_)
            refine j_istore (q := 120) (i := 7) (l2 := [(4, .int v4), (3, .int v1), (0, vR x.2.2.2 x0), (1, .int x1), (2, .int x2)]) hx (dc kL_acts_0 44 rfl) (hn 7 (by decide)) [2, 3, 4, 5, 6] rfl ⟨⟨show (4 : Nat) ≠ 7 by decide, Or.inl (show (4 : Nat) + 1 ≠ 7 by decide)⟩, ⟨⟨show (3 : Nat) ≠ 7 by decide, Or.inl (show (3 : Nat) + 1 ≠ 7 by decide)⟩, ⟨⟨show (0 : Nat) ≠ 7 by decide, Or.inl (show (0 : Nat) + 1 ≠ 7 by decide)⟩, ⟨⟨show (1 : Nat) ≠ 7 by decide, Or.inl (show (1 : Nat) + 1 ≠ 7 by decide)⟩, ⟨⟨show (2 : Nat) ≠ 7 by decide, Or.inl (show (2 : Nat) + 1 ≠ 7 by decide)⟩, trivial⟩⟩⟩⟩⟩ rfl ?_
            refine j_goto (q := 267) hx (dc kL_acts_0 45 rfl) (by decide) ?_
            exact j_sub [3, 4, 5, 2, 1, 0] rfl (hb267 x0 x1 x2 v1 v4 v50 h51)
          · refine j_aload_n (q := 124) hx (dc kL_acts_0 46 rfl) rfl 4 rfl rfl ?_
            refine w_gR (q := 127) hx (dc kL_acts_0 47 rfl) ff_L_0 lk_L_10 rfl (fun v52 => ?_)
            refine j_iload (q := 129) hx (dc kL_acts_0 48 rfl) 1 rfl rfl ?_
            refine w_cVIW (q := 132) (As := [.int (v7 - v9)]) (st := []) hx (dc kL_acts_0 49 rfl) cf11 (by decide) rfl (cI _ my_X11_withdraw lm_L_293 (by decide)) vs_X11_withdraw rfl (fun u hu => sX11_withdraw _ _ _ _ _ _ hu) (fun e => ite_ne (by unfold mX11_withdraw at e; exact e)) (Nat.zero_le _) rfl (fun v53 h54 => ?_)
            refine j_istore (q := 134) (i := 7) (l2 := [(4, .int v4), (3, .int v1), (0, vR x.2.2.2 x0), (1, .int x1), (2, .int x2)]) hx (dc kL_acts_0 50 rfl) (hn 7 (by decide)) [2, 3, 4, 5, 6] rfl ⟨⟨show (4 : Nat) ≠ 7 by decide, Or.inl (show (4 : Nat) + 1 ≠ 7 by decide)⟩, ⟨⟨show (3 : Nat) ≠ 7 by decide, Or.inl (show (3 : Nat) + 1 ≠ 7 by decide)⟩, ⟨⟨show (0 : Nat) ≠ 7 by decide, Or.inl (show (0 : Nat) + 1 ≠ 7 by decide)⟩, ⟨⟨show (1 : Nat) ≠ 7 by decide, Or.inl (show (1 : Nat) + 1 ≠ 7 by decide)⟩, ⟨⟨show (2 : Nat) ≠ 7 by decide, Or.inl (show (2 : Nat) + 1 ≠ 7 by decide)⟩, trivial⟩⟩⟩⟩⟩ rfl ?_
            refine j_goto (q := 267) hx (dc kL_acts_0 51 rfl) (by decide) ?_
            exact j_sub [3, 4, 5, 2, 1, 0] rfl (hb267 x0 x1 x2 v1 v4 v53 h54)
          · refine j_aload_n (q := 138) hx (dc kL_acts_0 52 rfl) rfl 4 rfl rfl ?_
            refine j_iconst (q := 139) (v := (4 : Int32)) hx (dc kL_acts_0 53 rfl) (by decide) rfl ?_
            refine w_cVIW (q := 142) (As := [.int (4 : Int32)]) (st := []) hx (dc kL_acts_0 54 rfl) cf15 (by decide) rfl (cI _ my_L_draw lm_L_75 (by decide)) vs_L_draw rfl (fun u hu => sL_draw _ _ _ _ _ _ hu) (fun e => ite_ne (by unfold mL_draw at e; exact e)) (Nat.zero_le _) rfl (fun v55 h56 => ?_)
            refine j_if_neS (q := 145) (tgt := 155) hx (dc kL_acts_0 55 rfl) (by decide) rfl ?_ ?_
            · refine j_aload_n (q := 156) hx (dc kL_acts_0 60 rfl) rfl 4 rfl rfl ?_
              refine w_gR (q := 159) hx (dc kL_acts_0 61 rfl) ff_L_0 lk_L_10 rfl (fun v57 => ?_)
              refine j_iload (q := 161) hx (dc kL_acts_0 62 rfl) 1 rfl rfl ?_
              refine j_aload_n (q := 162) hx (dc kL_acts_0 63 rfl) rfl 4 rfl rfl ?_
              refine j_iconst (q := 163) (v := (2 : Int32)) hx (dc kL_acts_1 0 rfl) (by decide) rfl ?_
              refine w_cVIW (q := 166) (As := [.int (2 : Int32)]) (st := [.int (v7 - v9), vR x.2.2.2 v57]) hx (dc kL_acts_1 1 rfl) cf15 (by decide) rfl (cI _ my_L_draw lm_L_75 (by decide)) vs_L_draw rfl (fun u hu => sL_draw _ _ _ _ _ _ hu) (fun e => ite_ne (by unfold mL_draw at e; exact e)) (sum_le (sum_I (sum_R sum_nil)) (by decide)) rfl (fun v58 h59 => ?_)
              refine j_if_neS (q := 169) (tgt := 173) hx (dc kL_acts_1 2 rfl) (by decide) rfl ?_ ?_
              · refine j_iconst (q := 174) (v := (0 : Int32)) hx (dc kL_acts_1 5 rfl) (by decide) rfl ?_
                exact j_sub [4, 5, 6, 3, 2] rfl (hb174 x0 x1 x2 v1 v4 v57 (v7 - v9) (0 : Int32) h59)
              · refine j_iconst (q := 170) (v := (1 : Int32)) hx (dc kL_acts_1 3 rfl) (by decide) rfl ?_
                refine j_goto (q := 174) hx (dc kL_acts_1 4 rfl) (by decide) ?_
                exact j_sub [4, 5, 6, 3, 2] rfl (hb174 x0 x1 x2 v1 v4 v57 (v7 - v9) (1 : Int32) h59)
            · refine j_aload_n (q := 146) hx (dc kL_acts_0 56 rfl) rfl 4 rfl rfl ?_
              refine w_gR (q := 149) hx (dc kL_acts_0 57 rfl) ff_L_0 lk_L_10 rfl (fun v62 => ?_)
              refine w_cVIW (q := 152) (As := []) (st := []) hx (dc kL_acts_0 58 rfl) cf11 (by decide) rfl (cI _ my_X11_close lm_L_296 (by decide)) vs_X11_close rfl (fun u hu => sX11_close _ _ _ _ _ hu) (fun e => ite_ne (by unfold mX11_close at e; exact e)) (Nat.zero_le _) rfl (fun v63 h64 => ?_)
              refine j_goto (q := 177) hx (dc kL_acts_0 59 rfl) (by decide) ?_
              exact j_sub [4, 5, 6, 3, 2] rfl (hb177 x0 x1 x2 v1 v4 v63 h64)
          · refine j_aload_n (q := 183) hx (dc kL_acts_1 9 rfl) rfl 4 rfl rfl ?_
            refine w_gR (q := 186) hx (dc kL_acts_1 10 rfl) ff_L_0 lk_L_10 rfl (fun v65 => ?_)
            refine j_iload (q := 188) hx (dc kL_acts_1 11 rfl) 0 rfl rfl ?_
            refine j_iload (q := 190) hx (dc kL_acts_1 12 rfl) 1 rfl rfl ?_
            refine j_aload_n (q := 191) hx (dc kL_acts_1 13 rfl) rfl 4 rfl rfl ?_
            refine j_iconst (q := 192) (v := (3 : Int32)) hx (dc kL_acts_1 14 rfl) (by decide) rfl ?_
            refine w_cVIW (q := 195) (As := [.int (3 : Int32)]) (st := [.int (v7 - v9), .int v14, vR x.2.2.2 v65]) hx (dc kL_acts_1 15 rfl) cf15 (by decide) rfl (cI _ my_L_draw lm_L_75 (by decide)) vs_L_draw rfl (fun u hu => sL_draw _ _ _ _ _ _ hu) (fun e => ite_ne (by unfold mL_draw at e; exact e)) (sum_le (sum_I (sum_I (sum_R sum_nil))) (by decide)) rfl (fun v66 h67 => ?_)
            refine w_cVIW (q := 198) (As := [.int v14, .int (v7 - v9), .int v66]) (st := []) hx (dc kL_acts_1 16 rfl) cf11 (by decide) rfl (cI _ my_X11_say lm_L_299 (by decide)) vs_X11_say rfl (fun u hu => sX11_say _ _ _ _ _ _ _ _ hu) (fun e => ite_ne (by unfold mX11_say at e; exact e)) (Nat.zero_le _) rfl (fun v68 h69 => ?_)
            refine j_istore (q := 200) (i := 7) (l2 := [(4, .int v4), (3, .int v1), (0, vR x.2.2.2 x0), (1, .int x1), (2, .int x2)]) hx (dc kL_acts_1 17 rfl) (hn 7 (by decide)) [2, 3, 4, 5, 6] rfl ⟨⟨show (4 : Nat) ≠ 7 by decide, Or.inl (show (4 : Nat) + 1 ≠ 7 by decide)⟩, ⟨⟨show (3 : Nat) ≠ 7 by decide, Or.inl (show (3 : Nat) + 1 ≠ 7 by decide)⟩, ⟨⟨show (0 : Nat) ≠ 7 by decide, Or.inl (show (0 : Nat) + 1 ≠ 7 by decide)⟩, ⟨⟨show (1 : Nat) ≠ 7 by decide, Or.inl (show (1 : Nat) + 1 ≠ 7 by decide)⟩, ⟨⟨show (2 : Nat) ≠ 7 by decide, Or.inl (show (2 : Nat) + 1 ≠ 7 by decide)⟩, trivial⟩⟩⟩⟩⟩ rfl ?_
            refine j_goto (q := 267) hx (dc kL_acts_1 18 rfl) (by decide) ?_
            exact j_sub [3, 4, 5, 2, 1, 0] rfl (hb267 x0 x1 x2 v1 v4 v68 h69)
          · refine j_aload_n (q := 183) hx (dc kL_acts_1 9 rfl) rfl 4 rfl rfl ?_
            refine w_gR (q := 186) hx (dc kL_acts_1 10 rfl) ff_L_0 lk_L_10 rfl (fun v70 => ?_)
            refine j_iload (q := 188) hx (dc kL_acts_1 11 rfl) 0 rfl rfl ?_
            refine j_iload (q := 190) hx (dc kL_acts_1 12 rfl) 1 rfl rfl ?_
            refine j_aload_n (q := 191) hx (dc kL_acts_1 13 rfl) rfl 4 rfl rfl ?_
            refine j_iconst (q := 192) (v := (3 : Int32)) hx (dc kL_acts_1 14 rfl) (by decide) rfl ?_
            refine w_cVIW (q := 195) (As := [.int (3 : Int32)]) (st := [.int (v7 - v9), .int v14, vR x.2.2.2 v70]) hx (dc kL_acts_1 15 rfl) cf15 (by decide) rfl (cI _ my_L_draw lm_L_75 (by decide)) vs_L_draw rfl (fun u hu => sL_draw _ _ _ _ _ _ hu) (fun e => ite_ne (by unfold mL_draw at e; exact e)) (sum_le (sum_I (sum_I (sum_R sum_nil))) (by decide)) rfl (fun v71 h72 => ?_)
            refine w_cVIW (q := 198) (As := [.int v14, .int (v7 - v9), .int v71]) (st := []) hx (dc kL_acts_1 16 rfl) cf11 (by decide) rfl (cI _ my_X11_say lm_L_299 (by decide)) vs_X11_say rfl (fun u hu => sX11_say _ _ _ _ _ _ _ _ hu) (fun e => ite_ne (by unfold mX11_say at e; exact e)) (Nat.zero_le _) rfl (fun v73 h74 => ?_)
            refine j_istore (q := 200) (i := 7) (l2 := [(4, .int v4), (3, .int v1), (0, vR x.2.2.2 x0), (1, .int x1), (2, .int x2)]) hx (dc kL_acts_1 17 rfl) (hn 7 (by decide)) [2, 3, 4, 5, 6] rfl ⟨⟨show (4 : Nat) ≠ 7 by decide, Or.inl (show (4 : Nat) + 1 ≠ 7 by decide)⟩, ⟨⟨show (3 : Nat) ≠ 7 by decide, Or.inl (show (3 : Nat) + 1 ≠ 7 by decide)⟩, ⟨⟨show (0 : Nat) ≠ 7 by decide, Or.inl (show (0 : Nat) + 1 ≠ 7 by decide)⟩, ⟨⟨show (1 : Nat) ≠ 7 by decide, Or.inl (show (1 : Nat) + 1 ≠ 7 by decide)⟩, ⟨⟨show (2 : Nat) ≠ 7 by decide, Or.inl (show (2 : Nat) + 1 ≠ 7 by decide)⟩, trivial⟩⟩⟩⟩⟩ rfl ?_
            refine j_goto (q := 267) hx (dc kL_acts_1 18 rfl) (by decide) ?_
            exact j_sub [3, 4, 5, 2, 1, 0] rfl (hb267 x0 x1 x2 v1 v4 v73 h74)
          · refine j_aload_n (q := 204) hx (dc kL_acts_1 19 rfl) rfl 4 rfl rfl ?_
            refine j_iconst (q := 205) (v := (3 : Int32)) hx (dc kL_acts_1 20 rfl) (by decide) rfl ?_
            refine w_cVIW (q := 208) (As := [.int (3 : Int32)]) (st := []) hx (dc kL_acts_1 21 rfl) cf15 (by decide) rfl (cI _ my_L_draw lm_L_75 (by decide)) vs_L_draw rfl (fun u hu => sL_draw _ _ _ _ _ _ hu) (fun e => ite_ne (by unfold mL_draw at e; exact e)) (Nat.zero_le _) rfl (fun v75 h76 => ?_)
            refine j_if_neS (q := 211) (tgt := 223) hx (dc kL_acts_1 22 rfl) (by decide) rfl ?_ ?_
            · refine j_aload_n (q := 224) hx (dc kL_acts_1 28 rfl) rfl 4 rfl rfl ?_
              refine w_gR (q := 227) hx (dc kL_acts_1 29 rfl) ff_L_0 lk_L_10 rfl (fun v77 => ?_)
              refine j_aload_n (q := 228) hx (dc kL_acts_1 30 rfl) rfl 4 rfl rfl ?_
              refine j_sipush (q := 231) (v := (200 : Int32)) hx (dc kL_acts_1 31 rfl) (by decide) rfl ?_
              refine w_cVIW (q := 234) (As := [.int (200 : Int32)]) (st := [vR x.2.2.2 v77]) hx (dc kL_acts_1 32 rfl) cf15 (by decide) rfl (cI _ my_L_draw lm_L_75 (by decide)) vs_L_draw rfl (fun u hu => sL_draw _ _ _ _ _ _ hu) (fun e => ite_ne (by unfold mL_draw at e; exact e)) (sum_le (sum_R sum_nil) (by decide)) rfl (fun v78 h79 => ?_)
              refine w_cVIW (q := 237) (As := [.int v78]) (st := []) hx (dc kL_acts_1 33 rfl) cf11 (by decide) rfl (cI _ my_X11_days lm_L_305 (by decide)) vs_X11_days rfl (fun u hu => sX11_days _ _ _ _ _ _ hu) (fun e => ite_ne (by unfold mX11_days at e; exact e)) (Nat.zero_le _) rfl (fun v80 h81 => ?_)
              exact j_sub [4, 5, 6, 3, 2] rfl (hb237 x0 x1 x2 v1 v4 v80 h81)
            · refine j_aload_n (q := 212) hx (dc kL_acts_1 23 rfl) rfl 4 rfl rfl ?_
              refine w_gR (q := 215) hx (dc kL_acts_1 24 rfl) ff_L_0 lk_L_10 rfl (fun v82 => ?_)
              refine j_iload (q := 217) hx (dc kL_acts_1 25 rfl) 0 rfl rfl ?_
              refine w_cVIW (q := 220) (As := [.int v14]) (st := []) hx (dc kL_acts_1 26 rfl) cf11 (by decide) rfl (cI _ my_X11_strike lm_L_302 (by decide)) vs_X11_strike rfl (fun u hu => sX11_strike _ _ _ _ _ _ hu) (fun e => ite_ne (by unfold mX11_strike at e; exact e)) (Nat.zero_le _) rfl (fun v83 h84 => ?_)
              refine j_goto (q := 237) hx (dc kL_acts_1 27 rfl) (by decide) ?_
              exact j_sub [4, 5, 6, 3, 2] rfl (hb237 x0 x1 x2 v1 v4 v83 h84)
    exact j_loop (S := (Int32 × Hp)) (lvf := fun s => [(0, vR x.2.2.2 x0), (1, .int x1), (2, .int s.1)]) (hpf := fun s => s.2) (f := (fun s : (Int32 × Hp) => mL_acts_l2f x0 x1 s.1 s.2)) (fun s => hB s.1 s.2) (x2, h)
  unfold mL_acts
  refine J.ckd fun hck => ?_
  refine j_iconst (q := 1) (v := (0 : Int32)) hx (dc kL_acts_0 0 rfl) (by decide) rfl ?_
  refine j_istore_n (q := 2) (i := 2) (l2 := [(0, vR x.2.2.2 x0), (1, .int x1)]) hx (dc kL_acts_0 1 rfl) rfl (hn 2 (by decide)) [0, 1] rfl ⟨⟨show (0 : Nat) ≠ 2 by decide, Or.inl (show (0 : Nat) + 1 ≠ 2 by decide)⟩, ⟨⟨show (1 : Nat) ≠ 2 by decide, Or.inr rfl⟩, trivial⟩⟩ rfl ?_
  exact j_sub [1, 2, 0] rfl (hb2 x0 x1 (0 : Int32) h)

set_option maxHeartbeats 4000000 in
set_option maxRecDepth 100000 in
theorem sL_proved (l : Launch) (w : Wd) (x0 : Nat) (x1 : Int32) (x2 : Int32) (h : Hp) (u : (Int32 × Hp)) (hK : mL_proved x0 x1 x2 h = some u) : M1 l w mi_L_proved 9 [vR w x0, .int x1, .int x2] h u.2 (some (.int u.1)) := by
  refine M1.of (own := RL) (T := fun _ r => r = u) hK (by decide +kernel) rfl (by first | (simp only [lg_lenR, lg_lenI, lg_lenL, lg_len0]; decide) | decide) (fun x hx hnl hhf hl hw hret hnm hQ h0e => ⟨?_, rfl⟩)
  subst hw
  subst hl
  have hR : Rt x h u.2 (some (.int u.1)) ((some .boolean)) := ⟨h0e, hhf, hret, hQ⟩
  have hn : ∀ i, i < 9 → i < x.2.2.1.1.1 := fun i hi => by rw [hnl]; exact hi
  have e0 : lv_args 0 [vR x.2.2.2 x0, .int x1, .int x2] = [(0, vR x.2.2.2 x0), (1, .int x1), (2, .int x2)] := by simp only [lv_argsR, lv_argsI, lv_argsL, lv_args0]
  rw [e0]
  have hb136 : ∀ (x0 : Nat) (x5 : Int32) (x6 : Int32) (x7 : Int32) (t0 : Int32) (t1 : Int32) (h : Hp), J x 136 [(0, vR x.2.2.2 x0), (5, .int x5), (6, .int x6), (7, .int x7)] [.int t1, .int t0] h (mL_proved_b136 x0 x5 x6 x7 t0 t1 h) (fun r => r = u) := by
    intro x0 x5 x6 x7 t0 t1 h
    unfold mL_proved_b136
    refine j_icmp_neS (q := 139) (tgt := 172) hx (dc kL_proved_1 11 rfl) (by decide) rfl ?_ ?_
    · refine j_iconst (q := 173) (v := (0 : Int32)) hx (dc kL_proved_1 28 rfl) (by decide) rfl ?_
      exact r_cW hx (Or.inl rfl) hR (dc kL_proved_1 29 rfl)
    · refine j_iload (q := 141) hx (dc kL_proved_1 12 rfl) 2 rfl rfl ?_
      refine j_iload (q := 143) hx (dc kL_proved_1 13 rfl) 1 rfl rfl ?_
      refine j_iconst (q := 144) (v := (-1 : Int32)) hx (dc kL_proved_1 14 rfl) (by decide) rfl ?_
      refine j_ixor (q := 145) hx (dc kL_proved_1 15 rfl) rfl ?_
      refine j_iand (q := 146) hx (dc kL_proved_1 16 rfl) rfl ?_
      refine j_if_neS (q := 149) (tgt := 172) hx (dc kL_proved_1 17 rfl) (by decide) rfl ?_ ?_
      · refine j_iconst (q := 173) (v := (0 : Int32)) hx (dc kL_proved_1 28 rfl) (by decide) rfl ?_
        exact r_cW hx (Or.inl rfl) hR (dc kL_proved_1 29 rfl)
      · refine j_iload (q := 151) hx (dc kL_proved_1 18 rfl) 3 rfl rfl ?_
        refine j_iload (q := 153) hx (dc kL_proved_1 19 rfl) 1 rfl rfl ?_
        refine w_cSIR (q := 156) (As := [.int x5]) (st := [.int x7]) hx (dc kL_proved_1 20 rfl) (cI _ my_J6_bitCount_0f7a4 lm_L_343 (by decide)) st_J6_bitCount_0f7a4 rfl (fun u hu => sJ6_bitCount_0f7a4 _ _ _ _ _ hu) (sum_le (sum_I sum_nil) (by decide)) rfl (fun v16 => ?_)
        refine j_icmp_neS (q := 159) (tgt := 172) hx (dc kL_proved_1 21 rfl) (by decide) rfl ?_ ?_
        · refine j_iconst (q := 173) (v := (0 : Int32)) hx (dc kL_proved_1 28 rfl) (by decide) rfl ?_
          exact r_cW hx (Or.inl rfl) hR (dc kL_proved_1 29 rfl)
        · refine j_aload_n (q := 160) hx (dc kL_proved_1 22 rfl) rfl 0 rfl rfl ?_
          refine j_iload (q := 162) hx (dc kL_proved_1 23 rfl) 3 rfl rfl ?_
          refine w_cVIW (q := 165) (As := [.int x7]) (st := []) hx (dc kL_proved_1 24 rfl) cf15 (by decide) rfl (cI _ my_L_taken lm_L_313 (by decide)) vs_L_taken rfl (fun u hu => sL_taken _ _ _ _ _ _ hu) (fun e => ite_ne (by unfold mL_taken at e; exact e)) (Nat.zero_le _) rfl (fun v18 h19 => ?_)
          refine j_if_eq (q := 168) (tgt := 172) hx (dc kL_proved_1 25 rfl) (by decide) Iff.rfl rfl ?_ ?_
          · refine j_iconst (q := 173) (v := (0 : Int32)) hx (dc kL_proved_1 28 rfl) (by decide) rfl ?_
            exact r_cW hx (Or.inl rfl) hR (dc kL_proved_1 29 rfl)
          · refine j_iconst (q := 169) (v := (1 : Int32)) hx (dc kL_proved_1 26 rfl) (by decide) rfl ?_
            refine j_goto (q := 173) hx (dc kL_proved_1 27 rfl) (by decide) ?_
            exact r_cW hx (Or.inr rfl) hR (dc kL_proved_1 29 rfl)
  have hb58 : ∀ (x0 : Nat) (x1 : Int32) (x2 : Int32) (x5 : Int32) (x6 : Int32) (x7 : Int32) (x8 : Int32) (h : Hp), J x 58 [(0, vR x.2.2.2 x0), (1, .int x1), (2, .int x2), (5, .int x5), (6, .int x6), (7, .int x7), (8, .int x8)] [] h (mL_proved_l58 x0 x1 x2 x5 x6 x7 x8 h) (fun r => r = u) := by
    intro x0 x1 x2 x5 x6 x7 x8 h
    have hB : ∀ (x7 : Int32) (x8 : Int32) (h : Hp), J x 58 [(0, vR x.2.2.2 x0), (1, .int x1), (2, .int x2), (5, .int x5), (6, .int x6), (7, .int x7), (8, .int x8)] [] h (mL_proved_l58f x0 x1 x2 x5 x6 x7 x8 h) (TLo (S := (Int32 × Int32 × Hp)) x 58 (fun s => [(0, vR x.2.2.2 x0), (1, .int x1), (2, .int x2), (5, .int x5), (6, .int x6), (7, .int s.1), (8, .int s.2.1)]) [] (fun s => s.2.2) (fun r => r = u)) := by
      intro x7 x8 h
      have hb113 : ∀ (x0 : Nat) (x1 : Int32) (x2 : Int32) (x5 : Int32) (x6 : Int32) (x7 : Int32) (x8 : Int32) (h : Hp), J x 113 [(0, vR x.2.2.2 x0), (1, .int x1), (2, .int x2), (5, .int x5), (6, .int x6), (7, .int x7), (8, .int x8)] [] h (mL_proved_b113 x0 x1 x2 x5 x6 x7 x8 h) (TLo (S := (Int32 × Int32 × Hp)) x 58 (fun s => [(0, vR x.2.2.2 x0), (1, .int x1), (2, .int x2), (5, .int x5), (6, .int x6), (7, .int s.1), (8, .int s.2.1)]) [] (fun s => s.2.2) (fun r => r = u)) := by
        intro x0 x1 x2 x5 x6 x7 x8 h
        unfold mL_proved_b113
        refine j_iinc (q := 116) (l2 := [(0, vR x.2.2.2 x0), (1, .int x1), (2, .int x2), (5, .int x5), (6, .int x6), (7, .int x7)]) hx (dc kL_proved_1 0 rfl) 6 rfl (v := (1 : Int32)) (by decide) (hn 8 (by decide)) [0, 1, 2, 3, 4, 5] rfl ⟨⟨show (0 : Nat) ≠ 8 by decide, Or.inl (show (0 : Nat) + 1 ≠ 8 by decide)⟩, ⟨⟨show (1 : Nat) ≠ 8 by decide, Or.inl (show (1 : Nat) + 1 ≠ 8 by decide)⟩, ⟨⟨show (2 : Nat) ≠ 8 by decide, Or.inl (show (2 : Nat) + 1 ≠ 8 by decide)⟩, ⟨⟨show (5 : Nat) ≠ 8 by decide, Or.inl (show (5 : Nat) + 1 ≠ 8 by decide)⟩, ⟨⟨show (6 : Nat) ≠ 8 by decide, Or.inl (show (6 : Nat) + 1 ≠ 8 by decide)⟩, ⟨⟨show (7 : Nat) ≠ 8 by decide, Or.inr rfl⟩, trivial⟩⟩⟩⟩⟩⟩ rfl ?_
        refine j_goto (q := 58) hx (dc kL_proved_1 1 rfl) (by decide) ?_
        exact j_back [1, 2, 3, 4, 5, 6, 0] (x7, (x8 + (1 : Int32)), h) rfl rfl
      unfold mL_proved_l58f
      refine j_iload (q := 60) hx (dc kL_proved_0 35 rfl) 6 rfl rfl ?_
      refine j_aload_n (q := 61) hx (dc kL_proved_0 36 rfl) rfl 0 rfl rfl ?_
      refine w_gI (q := 64) hx (dc kL_proved_0 37 rfl) ff_L_3 lk_L_87 rfl (fun v12 => ?_)
      refine j_icmp_geS (q := 67) (tgt := 119) hx (dc kL_proved_0 38 rfl) (by decide) rfl ?_ ?_
      · refine j_exit ?_
        refine j_aload_n (q := 120) hx (dc kL_proved_1 2 rfl) rfl 0 rfl rfl ?_
        refine w_gR (q := 123) hx (dc kL_proved_1 3 rfl) ff_L_0 lk_L_10 rfl (fun v13 => ?_)
        refine j_iload_n (q := 124) hx (dc kL_proved_1 4 rfl) rfl 1 rfl rfl ?_
        refine w_cVIW (q := 127) (As := [.int x1]) (st := []) hx (dc kL_proved_1 5 rfl) cf11 (by decide) rfl (cI _ my_X11_judged lm_L_260 (by decide)) vs_X11_judged rfl (fun u hu => sX11_judged _ _ _ _ _ _ hu) (fun e => ite_ne (by unfold mX11_judged at e; exact e)) (Nat.zero_le _) rfl (fun v14 h15 => ?_)
        refine j_iload_n (q := 128) hx (dc kL_proved_1 6 rfl) rfl 2 rfl rfl ?_
        refine j_if_eq (q := 131) (tgt := 135) hx (dc kL_proved_1 7 rfl) (by decide) Iff.rfl rfl ?_ ?_
        · refine j_iconst (q := 136) (v := (0 : Int32)) hx (dc kL_proved_1 10 rfl) (by decide) rfl ?_
          exact j_sub [0, 3, 4, 5] rfl (hb136 x0 x5 x6 x7 v14 (0 : Int32) h15)
        · refine j_iconst (q := 132) (v := (1 : Int32)) hx (dc kL_proved_1 8 rfl) (by decide) rfl ?_
          refine j_goto (q := 136) hx (dc kL_proved_1 9 rfl) (by decide) ?_
          exact j_sub [0, 3, 4, 5] rfl (hb136 x0 x5 x6 x7 v14 (1 : Int32) h15)
      · refine j_iload (q := 69) hx (dc kL_proved_0 39 rfl) 3 rfl rfl ?_
        refine j_iload (q := 71) hx (dc kL_proved_0 40 rfl) 6 rfl rfl ?_
        refine j_ishr (q := 72) hx (dc kL_proved_0 41 rfl) rfl ?_
        refine j_iconst (q := 73) (v := (1 : Int32)) hx (dc kL_proved_0 42 rfl) (by decide) rfl ?_
        refine j_iand (q := 74) hx (dc kL_proved_0 43 rfl) rfl ?_
        refine j_if_neS (q := 77) (tgt := 80) hx (dc kL_proved_0 44 rfl) (by decide) rfl ?_ ?_
        · refine j_aload_n (q := 81) hx (dc kL_proved_0 46 rfl) rfl 0 rfl rfl ?_
          refine w_gR (q := 84) hx (dc kL_proved_0 47 rfl) ff_L_0 lk_L_10 rfl (fun v20 => ?_)
          refine j_iload_n (q := 85) hx (dc kL_proved_0 48 rfl) rfl 1 rfl rfl ?_
          refine w_cVIW (q := 88) (As := [.int x1]) (st := []) hx (dc kL_proved_0 49 rfl) cf11 (by decide) rfl (cI _ my_X11_judged lm_L_260 (by decide)) vs_X11_judged rfl (fun u hu => sX11_judged _ _ _ _ _ _ hu) (fun e => ite_ne (by unfold mX11_judged at e; exact e)) (Nat.zero_le _) rfl (fun v21 h22 => ?_)
          refine j_iconst (q := 89) (v := (2 : Int32)) hx (dc kL_proved_0 50 rfl) (by decide) rfl ?_
          refine j_icmp_neS (q := 92) (tgt := 108) hx (dc kL_proved_0 51 rfl) (by decide) rfl ?_ ?_
          · refine j_exit ?_
            refine j_iconst (q := 109) (v := (0 : Int32)) hx (dc kL_proved_0 61 rfl) (by decide) rfl ?_
            exact r_cW hx (Or.inl rfl) hR (dc kL_proved_0 62 rfl)
          · refine j_aload_n (q := 93) hx (dc kL_proved_0 52 rfl) rfl 0 rfl rfl ?_
            refine j_iload (q := 95) hx (dc kL_proved_0 53 rfl) 6 rfl rfl ?_
            refine j_iload (q := 97) hx (dc kL_proved_0 54 rfl) 4 rfl rfl ?_
            refine j_iload (q := 99) hx (dc kL_proved_0 55 rfl) 6 rfl rfl ?_
            refine j_ishr (q := 100) hx (dc kL_proved_0 56 rfl) rfl ?_
            refine j_iconst (q := 101) (v := (1 : Int32)) hx (dc kL_proved_0 57 rfl) (by decide) rfl ?_
            refine j_iand (q := 102) hx (dc kL_proved_0 58 rfl) rfl ?_
            refine w_cVIW (q := 105) (As := [.int x8, .int ((x6 >>> (x8 &&& 31)) &&& (1 : Int32))]) (st := []) hx (dc kL_proved_0 59 rfl) cf15 (by decide) rfl (cI _ my_L_makes lm_L_332 (by decide)) vs_L_makes rfl (fun u hu => sL_makes _ _ _ _ _ _ _ hu) (fun e => ite_ne (by unfold mL_makes at e; exact e)) (Nat.zero_le _) rfl (fun v23 h24 => ?_)
            refine j_if_neS (q := 108) (tgt := 110) hx (dc kL_proved_0 60 rfl) (by decide) rfl ?_ ?_
            · refine j_iinc (q := 113) (l2 := [(0, vR x.2.2.2 x0), (1, .int x1), (2, .int x2), (5, .int x5), (6, .int x6), (8, .int x8)]) hx (dc kL_proved_0 63 rfl) 5 rfl (v := (1 : Int32)) (by decide) (hn 7 (by decide)) [0, 1, 2, 3, 4, 6] rfl ⟨⟨show (0 : Nat) ≠ 7 by decide, Or.inl (show (0 : Nat) + 1 ≠ 7 by decide)⟩, ⟨⟨show (1 : Nat) ≠ 7 by decide, Or.inl (show (1 : Nat) + 1 ≠ 7 by decide)⟩, ⟨⟨show (2 : Nat) ≠ 7 by decide, Or.inl (show (2 : Nat) + 1 ≠ 7 by decide)⟩, ⟨⟨show (5 : Nat) ≠ 7 by decide, Or.inl (show (5 : Nat) + 1 ≠ 7 by decide)⟩, ⟨⟨show (6 : Nat) ≠ 7 by decide, Or.inr rfl⟩, ⟨⟨show (8 : Nat) ≠ 7 by decide, Or.inl (show (8 : Nat) + 1 ≠ 7 by decide)⟩, trivial⟩⟩⟩⟩⟩⟩ rfl ?_
              exact j_sub [1, 2, 3, 4, 5, 0, 6] rfl (hb113 x0 x1 x2 x5 x6 (x7 + (1 : Int32)) x8 h24)
            · refine j_exit ?_
              refine j_iconst (q := 109) (v := (0 : Int32)) hx (dc kL_proved_0 61 rfl) (by decide) rfl ?_
              exact r_cW hx (Or.inl rfl) hR (dc kL_proved_0 62 rfl)
        · refine j_goto (q := 113) hx (dc kL_proved_0 45 rfl) (by decide) ?_
          exact hb113 x0 x1 x2 x5 x6 x7 x8 h
    exact j_loop (S := (Int32 × Int32 × Hp)) (lvf := fun s => [(0, vR x.2.2.2 x0), (1, .int x1), (2, .int x2), (5, .int x5), (6, .int x6), (7, .int s.1), (8, .int s.2.1)]) (hpf := fun s => s.2.2) (f := (fun s : (Int32 × Int32 × Hp) => mL_proved_l58f x0 x1 x2 x5 x6 s.1 s.2.1 s.2.2)) (fun s => hB s.1 s.2.1 s.2.2) (x7, x8, h)
  unfold mL_proved
  refine J.ckd fun hck => ?_
  refine j_aload_n (q := 1) hx (dc kL_proved_0 0 rfl) rfl 0 rfl rfl ?_
  refine w_gR (q := 4) hx (dc kL_proved_0 1 rfl) ff_L_0 lk_L_10 rfl (fun v1 => ?_)
  refine j_iload_n (q := 5) hx (dc kL_proved_0 2 rfl) rfl 1 rfl rfl ?_
  refine j_iload_n (q := 6) hx (dc kL_proved_0 3 rfl) rfl 2 rfl rfl ?_
  refine w_cVIW (q := 9) (As := [.int x1, .int x2]) (st := []) hx (dc kL_proved_0 4 rfl) cf11 (by decide) rfl (cI _ my_X11_proofs lm_L_322 (by decide)) vs_X11_proofs rfl (fun u hu => sX11_proofs _ _ _ _ _ _ _ hu) (fun e => ite_ne (by unfold mX11_proofs at e; exact e)) (Nat.zero_le _) rfl (fun v2 h3 => ?_)
  refine j_istore_n (q := 10) (i := 3) (l2 := [(0, vR x.2.2.2 x0), (1, .int x1), (2, .int x2)]) hx (dc kL_proved_0 5 rfl) rfl (hn 3 (by decide)) [0, 1, 2] rfl ⟨⟨show (0 : Nat) ≠ 3 by decide, Or.inl (show (0 : Nat) + 1 ≠ 3 by decide)⟩, ⟨⟨show (1 : Nat) ≠ 3 by decide, Or.inl (show (1 : Nat) + 1 ≠ 3 by decide)⟩, ⟨⟨show (2 : Nat) ≠ 3 by decide, Or.inr rfl⟩, trivial⟩⟩⟩ rfl ?_
  refine j_iload_n (q := 11) hx (dc kL_proved_0 6 rfl) rfl 0 rfl rfl ?_
  refine j_iconst (q := 12) (v := (1 : Int32)) hx (dc kL_proved_0 7 rfl) (by decide) rfl ?_
  refine j_icmp_geS (q := 15) (tgt := 17) hx (dc kL_proved_0 8 rfl) (by decide) rfl ?_ ?_
  · refine j_aload_n (q := 18) hx (dc kL_proved_0 11 rfl) rfl 1 rfl rfl ?_
    refine j_iload_n (q := 19) hx (dc kL_proved_0 12 rfl) rfl 0 rfl rfl ?_
    refine w_cVIW (q := 22) (As := [.int v2]) (st := []) hx (dc kL_proved_0 13 rfl) cf15 (by decide) rfl (cI _ my_L_draw lm_L_75 (by decide)) vs_L_draw rfl (fun u hu => sL_draw _ _ _ _ _ _ hu) (fun e => ite_ne (by unfold mL_draw at e; exact e)) (Nat.zero_le _) rfl (fun v4 h5 => ?_)
    refine j_istore (q := 24) (i := 4) (l2 := [(0, vR x.2.2.2 x0), (1, .int x1), (2, .int x2)]) hx (dc kL_proved_0 14 rfl) (hn 4 (by decide)) [1, 2, 3] rfl ⟨⟨show (0 : Nat) ≠ 4 by decide, Or.inl (show (0 : Nat) + 1 ≠ 4 by decide)⟩, ⟨⟨show (1 : Nat) ≠ 4 by decide, Or.inl (show (1 : Nat) + 1 ≠ 4 by decide)⟩, ⟨⟨show (2 : Nat) ≠ 4 by decide, Or.inl (show (2 : Nat) + 1 ≠ 4 by decide)⟩, trivial⟩⟩⟩ rfl ?_
    refine j_aload_n (q := 25) hx (dc kL_proved_0 15 rfl) rfl 1 rfl rfl ?_
    refine w_gR (q := 28) hx (dc kL_proved_0 16 rfl) ff_L_0 lk_L_10 rfl (fun v6 => ?_)
    refine j_iload_n (q := 29) hx (dc kL_proved_0 17 rfl) rfl 2 rfl rfl ?_
    refine j_iload_n (q := 30) hx (dc kL_proved_0 18 rfl) rfl 3 rfl rfl ?_
    refine j_iload (q := 32) hx (dc kL_proved_0 19 rfl) 0 rfl rfl ?_
    refine j_iconst (q := 33) (v := (0 : Int32)) hx (dc kL_proved_0 20 rfl) (by decide) rfl ?_
    refine w_cVIW (q := 36) (As := [.int x1, .int x2, .int v4, .int (0 : Int32)]) (st := []) hx (dc kL_proved_0 21 rfl) cf11 (by decide) rfl (cI _ my_X11_proof lm_L_325 (by decide)) vs_X11_proof rfl (fun u hu => sX11_proof _ _ _ _ _ _ _ _ _ hu) (fun e => ite_ne (by unfold mX11_proof at e; exact e)) (Nat.zero_le _) rfl (fun v7 h8 => ?_)
    refine j_istore (q := 38) (i := 5) (l2 := [(4, .int v4), (0, vR x.2.2.2 x0), (1, .int x1), (2, .int x2)]) hx (dc kL_proved_0 22 rfl) (hn 5 (by decide)) [0, 1, 2, 3] rfl ⟨⟨show (4 : Nat) ≠ 5 by decide, Or.inr rfl⟩, ⟨⟨show (0 : Nat) ≠ 5 by decide, Or.inl (show (0 : Nat) + 1 ≠ 5 by decide)⟩, ⟨⟨show (1 : Nat) ≠ 5 by decide, Or.inl (show (1 : Nat) + 1 ≠ 5 by decide)⟩, ⟨⟨show (2 : Nat) ≠ 5 by decide, Or.inl (show (2 : Nat) + 1 ≠ 5 by decide)⟩, trivial⟩⟩⟩⟩ rfl ?_
    refine j_aload_n (q := 39) hx (dc kL_proved_0 23 rfl) rfl 2 rfl rfl ?_
    refine w_gR (q := 42) hx (dc kL_proved_0 24 rfl) ff_L_0 lk_L_10 rfl (fun v9 => ?_)
    refine j_iload_n (q := 43) hx (dc kL_proved_0 25 rfl) rfl 3 rfl rfl ?_
    refine j_iload_n (q := 44) hx (dc kL_proved_0 26 rfl) rfl 4 rfl rfl ?_
    refine j_iload (q := 46) hx (dc kL_proved_0 27 rfl) 1 rfl rfl ?_
    refine j_iconst (q := 47) (v := (1 : Int32)) hx (dc kL_proved_0 28 rfl) (by decide) rfl ?_
    refine w_cVIW (q := 50) (As := [.int x1, .int x2, .int v4, .int (1 : Int32)]) (st := []) hx (dc kL_proved_0 29 rfl) cf11 (by decide) rfl (cI _ my_X11_proof lm_L_325 (by decide)) vs_X11_proof rfl (fun u hu => sX11_proof _ _ _ _ _ _ _ _ _ hu) (fun e => ite_ne (by unfold mX11_proof at e; exact e)) (Nat.zero_le _) rfl (fun v10 h11 => ?_)
    refine j_istore (q := 52) (i := 6) (l2 := [(5, .int v7), (0, vR x.2.2.2 x0), (1, .int x1), (2, .int x2)]) hx (dc kL_proved_0 30 rfl) (hn 6 (by decide)) [0, 2, 3, 4] rfl ⟨⟨show (5 : Nat) ≠ 6 by decide, Or.inr rfl⟩, ⟨⟨show (0 : Nat) ≠ 6 by decide, Or.inl (show (0 : Nat) + 1 ≠ 6 by decide)⟩, ⟨⟨show (1 : Nat) ≠ 6 by decide, Or.inl (show (1 : Nat) + 1 ≠ 6 by decide)⟩, ⟨⟨show (2 : Nat) ≠ 6 by decide, Or.inl (show (2 : Nat) + 1 ≠ 6 by decide)⟩, trivial⟩⟩⟩⟩ rfl ?_
    refine j_iconst (q := 53) (v := (0 : Int32)) hx (dc kL_proved_0 31 rfl) (by decide) rfl ?_
    refine j_istore (q := 55) (i := 7) (l2 := [(6, .int v10), (5, .int v7), (0, vR x.2.2.2 x0), (1, .int x1), (2, .int x2)]) hx (dc kL_proved_0 32 rfl) (hn 7 (by decide)) [0, 1, 2, 3, 4] rfl ⟨⟨show (6 : Nat) ≠ 7 by decide, Or.inr rfl⟩, ⟨⟨show (5 : Nat) ≠ 7 by decide, Or.inl (show (5 : Nat) + 1 ≠ 7 by decide)⟩, ⟨⟨show (0 : Nat) ≠ 7 by decide, Or.inl (show (0 : Nat) + 1 ≠ 7 by decide)⟩, ⟨⟨show (1 : Nat) ≠ 7 by decide, Or.inl (show (1 : Nat) + 1 ≠ 7 by decide)⟩, ⟨⟨show (2 : Nat) ≠ 7 by decide, Or.inl (show (2 : Nat) + 1 ≠ 7 by decide)⟩, trivial⟩⟩⟩⟩⟩ rfl ?_
    refine j_iconst (q := 56) (v := (0 : Int32)) hx (dc kL_proved_0 33 rfl) (by decide) rfl ?_
    refine j_istore (q := 58) (i := 8) (l2 := [(7, .int (0 : Int32)), (6, .int v10), (5, .int v7), (0, vR x.2.2.2 x0), (1, .int x1), (2, .int x2)]) hx (dc kL_proved_0 34 rfl) (hn 8 (by decide)) [0, 1, 2, 3, 4, 5] rfl ⟨⟨show (7 : Nat) ≠ 8 by decide, Or.inr rfl⟩, ⟨⟨show (6 : Nat) ≠ 8 by decide, Or.inl (show (6 : Nat) + 1 ≠ 8 by decide)⟩, ⟨⟨show (5 : Nat) ≠ 8 by decide, Or.inl (show (5 : Nat) + 1 ≠ 8 by decide)⟩, ⟨⟨show (0 : Nat) ≠ 8 by decide, Or.inl (show (0 : Nat) + 1 ≠ 8 by decide)⟩, ⟨⟨show (1 : Nat) ≠ 8 by decide, Or.inl (show (1 : Nat) + 1 ≠ 8 by decide)⟩, ⟨⟨show (2 : Nat) ≠ 8 by decide, Or.inl (show (2 : Nat) + 1 ≠ 8 by decide)⟩, trivial⟩⟩⟩⟩⟩⟩ rfl ?_
    exact j_sub [4, 5, 6, 3, 2, 1, 0] rfl (hb58 x0 x1 x2 v7 v10 (0 : Int32) (0 : Int32) h11)
  · refine j_iconst (q := 16) (v := (0 : Int32)) hx (dc kL_proved_0 9 rfl) (by decide) rfl ?_
    exact r_cW hx (Or.inl rfl) hR (dc kL_proved_0 10 rfl)

