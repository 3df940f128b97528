set_option maxHeartbeats 4000000 in
set_option maxRecDepth 100000 in
theorem sX5_init {x0 : Nat} (hvx0 : x0 ≠ 0) (l : Launch) (w : Wd) (h : Hp) (u : Hp) (hK : mX5_init x0 h = some u) : M1 l w mi_X5_init 1 [vR w x0] h u (none) := by
  refine M1.of (own := RX5) (T := fun _ r => r = u) hK (by decide +kernel) rfl (by first | (simp only [lg_lenR, lg_lenI, lg_lenL, lg_len0]; decide) | decide) (fun x hx hnl hhf hl hw hret hnm hQ h0e => ⟨?_, rfl⟩)
  subst hw
  subst hl
  have hR : Rt x h u (none) (none) := ⟨h0e, hhf, hret, hQ⟩
  have hn : ∀ i, i < 1 → i < x.2.2.1.1.1 := fun i hi => by rw [hnl]; exact hi
  have e0 : lv_args 0 [vR x.2.2.2 x0] = [(0, vR x.2.2.2 x0)] := by simp only [lv_argsR, lv_argsI, lv_argsL, lv_args0]
  rw [e0]
  unfold mX5_init
  refine j_aload_n (q := 1) hx (dc kX5_init_0 0 rfl) rfl 0 rfl rfl ?_
  refine j_obj (q := 4) hx (dc kX5_init_0 1 rfl) lo_X5_3 hvx0 (by decide) (Nat.zero_le _) rfl ?_
  refine j_aload_n (q := 5) hx (dc kX5_init_0 2 rfl) rfl 0 rfl rfl ?_
  refine j_bipush (q := 7) (v := (8 : Int32)) hx (dc kX5_init_0 3 rfl) (by decide) rfl ?_
  refine j_newarray50 (q := 9) hx (dc kX5_init_0 4 rfl) ac_I (by decide) (by decide) (by decide) rfl (fun v2 hvv2 h1 => ?_)
  refine w_sR (q := 12) hx (dc kX5_init_0 5 rfl) ff_X5_9 lk_X5_9 (Or.inr ⟨hnm, rfl, rfl, lt_X5_9⟩) rfl (fun h3 => ?_)
  refine j_aload_n (q := 13) hx (dc kX5_init_0 6 rfl) rfl 0 rfl rfl ?_
  refine j_bipush (q := 15) (v := (8 : Int32)) hx (dc kX5_init_0 7 rfl) (by decide) rfl ?_
  refine j_newarray50 (q := 17) hx (dc kX5_init_0 8 rfl) ac_I (by decide) (by decide) (by decide) rfl (fun v5 hvv5 h4 => ?_)
  refine w_sR (q := 20) hx (dc kX5_init_0 9 rfl) ff_X5_10 lk_X5_15 (Or.inr ⟨hnm, rfl, rfl, lt_X5_15⟩) rfl (fun h6 => ?_)
  refine j_aload_n (q := 21) hx (dc kX5_init_0 10 rfl) rfl 0 rfl rfl ?_
  refine j_bipush (q := 23) (v := (8 : Int32)) hx (dc kX5_init_0 11 rfl) (by decide) rfl ?_
  refine j_newarray50 (q := 25) hx (dc kX5_init_0 12 rfl) ac_I (by decide) (by decide) (by decide) rfl (fun v8 hvv8 h7 => ?_)
  refine w_sR (q := 28) hx (dc kX5_init_0 13 rfl) ff_X5_11 lk_X5_18 (Or.inr ⟨hnm, rfl, rfl, lt_X5_18⟩) rfl (fun h9 => ?_)
  refine j_aload_n (q := 29) hx (dc kX5_init_0 14 rfl) rfl 0 rfl rfl ?_
  refine j_bipush (q := 31) (v := (8 : Int32)) hx (dc kX5_init_0 15 rfl) (by decide) rfl ?_
  refine j_newarray50 (q := 33) hx (dc kX5_init_0 16 rfl) ac_I (by decide) (by decide) (by decide) rfl (fun v11 hvv11 h10 => ?_)
  refine w_sR (q := 36) hx (dc kX5_init_0 17 rfl) ff_X5_12 lk_X5_21 (Or.inr ⟨hnm, rfl, rfl, lt_X5_21⟩) rfl (fun h12 => ?_)
  refine j_aload_n (q := 37) hx (dc kX5_init_0 18 rfl) rfl 0 rfl rfl ?_
  refine j_bipush (q := 39) (v := (8 : Int32)) hx (dc kX5_init_0 19 rfl) (by decide) rfl ?_
  refine j_newarray50 (q := 41) hx (dc kX5_init_0 20 rfl) ac_I (by decide) (by decide) (by decide) rfl (fun v14 hvv14 h13 => ?_)
  refine w_sR (q := 44) hx (dc kX5_init_0 21 rfl) ff_X5_13 lk_X5_24 (Or.inr ⟨hnm, rfl, rfl, lt_X5_24⟩) rfl (fun h15 => ?_)
  refine j_aload_n (q := 45) hx (dc kX5_init_0 22 rfl) rfl 0 rfl rfl ?_
  refine j_bipush (q := 47) (v := (8 : Int32)) hx (dc kX5_init_0 23 rfl) (by decide) rfl ?_
  refine j_newarray50 (q := 49) hx (dc kX5_init_0 24 rfl) ac_I (by decide) (by decide) (by decide) rfl (fun v17 hvv17 h16 => ?_)
  refine w_sR (q := 52) hx (dc kX5_init_0 25 rfl) ff_X5_14 lk_X5_27 (Or.inr ⟨hnm, rfl, rfl, lt_X5_27⟩) rfl (fun h18 => ?_)
  exact r_vW hx hR (dc kX5_init_0 26 rfl)

set_option maxHeartbeats 4000000 in
set_option maxRecDepth 100000 in
theorem sX0_init {x0 : Nat} (hvx0 : x0 ≠ 0) (l : Launch) (w : Wd) (h : Hp) (u : Hp) (hK : mX0_init x0 h = some u) : M1 l w mi_X0_init 2 [vR w x0] h u (none) := by
  refine M1.of (own := RX0) (T := fun _ r => r = u) hK (by decide +kernel) rfl (by first | (simp only [lg_lenR, lg_lenI, lg_lenL, lg_len0]; decide) | decide) (fun x hx hnl hhf hl hw hret hnm hQ h0e => ⟨?_, rfl⟩)
  subst hw
  subst hl
  have hR : Rt x h u (none) (none) := ⟨h0e, hhf, hret, hQ⟩
  have hn : ∀ i, i < 2 → i < x.2.2.1.1.1 := fun i hi => by rw [hnl]; exact hi
  have e0 : lv_args 0 [vR x.2.2.2 x0] = [(0, vR x.2.2.2 x0)] := by simp only [lv_argsR, lv_argsI, lv_argsL, lv_args0]
  rw [e0]
  have hb50 : ∀ (x0 : Nat) (x1 : Int32) (h : Hp), J x 50 [(0, vR x.2.2.2 x0), (1, .int x1)] [] h (mX0_init_l50 x0 x1 h) (fun r => r = u) := by
    intro x0 x1 h
    have hB : ∀ (x1 : Int32) (h : Hp), J x 50 [(0, vR x.2.2.2 x0), (1, .int x1)] [] h (mX0_init_l50f x0 x1 h) (TLo (S := (Int32 × Hp)) x 50 (fun s => [(0, vR x.2.2.2 x0), (1, .int s.1)]) [] (fun s => s.2) (fun r => r = u)) := by
      intro x1 h
      unfold mX0_init_l50f
      refine j_iload_n (q := 51) hx (dc kX0_init_0 26 rfl) rfl 1 rfl rfl ?_
      refine j_iconst (q := 52) (v := (2 : Int32)) hx (dc kX0_init_0 27 rfl) (by decide) rfl ?_
      refine j_icmp_geS (q := 55) (tgt := 74) hx (dc kX0_init_0 28 rfl) (by decide) rfl ?_ ?_
      · refine j_exit ?_
        exact r_vW hx hR (dc kX0_init_0 38 rfl)
      · refine j_aload_n (q := 56) hx (dc kX0_init_0 29 rfl) rfl 0 rfl rfl ?_
        refine w_gR (q := 59) hx (dc kX0_init_0 30 rfl) ff_X0_1 lk_X0_17 rfl (fun v7 => ?_)
        refine j_iload_n (q := 60) hx (dc kX0_init_0 31 rfl) rfl 1 rfl rfl ?_
        refine j_new (q := 63) hx (dc kX0_init_0 32 rfl) cf5 (by decide) nw_X0_9 rfl (fun v9 hvv9 h8 => ?_)
        refine j_dup (q := 64) hx (dc kX0_init_0 33 rfl) (vR_cat _ _) rfl ?_
        refine w_cIVW (q := 67) (As := []) (st := [vR x.2.2.2 v9, .int x1, vR x.2.2.2 v7]) hx (dc kX0_init_0 34 rfl) (cI _ my_X5_init lm_X0_20 (by decide)) is_X5_init rfl rfl (fun u hu => sX5_init hvv9 _ _ _ _ hu) hvv9 (sum_le (sum_R (sum_I (sum_R sum_nil))) (by decide)) rfl (fun h11 => ?_)
        refine w_stR (t := 0) (q := 68) hx (dc kX0_init_0 35 rfl) rfl (by decide) rfl cf5 (fun h12 => ?_)
        refine j_iinc (q := 71) (l2 := [(0, vR x.2.2.2 x0)]) hx (dc kX0_init_0 36 rfl) 1 rfl (v := (1 : Int32)) (by decide) (hn 1 (by decide)) [0] rfl ⟨⟨show (0 : Nat) ≠ 1 by decide, Or.inr (vR_cat _ _)⟩, trivial⟩ rfl ?_
        refine j_goto (q := 50) hx (dc kX0_init_0 37 rfl) (by decide) ?_
        exact j_back [1, 0] ((x1 + (1 : Int32)), h12) rfl rfl
    exact j_loop (S := (Int32 × Hp)) (lvf := fun s => [(0, vR x.2.2.2 x0), (1, .int s.1)]) (hpf := fun s => s.2) (f := (fun s : (Int32 × Hp) => mX0_init_l50f x0 s.1 s.2)) (fun s => hB s.1 s.2) (x1, h)
  have hb23 : ∀ (x0 : Nat) (x1 : Int32) (h : Hp), J x 23 [(0, vR x.2.2.2 x0), (1, .int x1)] [] h (mX0_init_l23 x0 x1 h) (fun r => r = u) := by
    intro x0 x1 h
    have hB : ∀ (x1 : Int32) (h : Hp), J x 23 [(0, vR x.2.2.2 x0), (1, .int x1)] [] h (mX0_init_l23f x0 x1 h) (TLo (S := (Int32 × Hp)) x 23 (fun s => [(0, vR x.2.2.2 x0), (1, .int s.1)]) [] (fun s => s.2) (fun r => r = u)) := by
      intro x1 h
      unfold mX0_init_l23f
      refine j_iload_n (q := 24) hx (dc kX0_init_0 12 rfl) rfl 1 rfl rfl ?_
      refine j_bipush (q := 26) (v := (16 : Int32)) hx (dc kX0_init_0 13 rfl) (by decide) rfl ?_
      refine j_icmp_geS (q := 29) (tgt := 48) hx (dc kX0_init_0 14 rfl) (by decide) rfl ?_ ?_
      · refine j_exit ?_
        refine j_iconst (q := 49) (v := (0 : Int32)) hx (dc kX0_init_0 24 rfl) (by decide) rfl ?_
        refine j_istore_n (q := 50) (i := 1) (l2 := [(0, vR x.2.2.2 x0)]) hx (dc kX0_init_0 25 rfl) rfl (hn 1 (by decide)) [0] rfl ⟨⟨show (0 : Nat) ≠ 1 by decide, Or.inr (vR_cat _ _)⟩, trivial⟩ rfl ?_
        exact j_sub [1, 0] rfl (hb50 x0 (0 : Int32) h)
      · refine j_aload_n (q := 30) hx (dc kX0_init_0 15 rfl) rfl 0 rfl rfl ?_
        refine w_gR (q := 33) hx (dc kX0_init_0 16 rfl) ff_X0_0 lk_X0_11 rfl (fun v13 => ?_)
        refine j_iload_n (q := 34) hx (dc kX0_init_0 17 rfl) rfl 1 rfl rfl ?_
        refine j_new (q := 37) hx (dc kX0_init_0 18 rfl) cf5 (by decide) nw_X0_9 rfl (fun v15 hvv15 h14 => ?_)
        refine j_dup (q := 38) hx (dc kX0_init_0 19 rfl) (vR_cat _ _) rfl ?_
        refine w_cIVW (q := 41) (As := []) (st := [vR x.2.2.2 v15, .int x1, vR x.2.2.2 v13]) hx (dc kX0_init_0 20 rfl) (cI _ my_X5_init lm_X0_20 (by decide)) is_X5_init rfl rfl (fun u hu => sX5_init hvv15 _ _ _ _ hu) hvv15 (sum_le (sum_R (sum_I (sum_R sum_nil))) (by decide)) rfl (fun h17 => ?_)
        refine w_stR (t := 0) (q := 42) hx (dc kX0_init_0 21 rfl) rfl (by decide) rfl cf5 (fun h18 => ?_)
        refine j_iinc (q := 45) (l2 := [(0, vR x.2.2.2 x0)]) hx (dc kX0_init_0 22 rfl) 1 rfl (v := (1 : Int32)) (by decide) (hn 1 (by decide)) [0] rfl ⟨⟨show (0 : Nat) ≠ 1 by decide, Or.inr (vR_cat _ _)⟩, trivial⟩ rfl ?_
        refine j_goto (q := 23) hx (dc kX0_init_0 23 rfl) (by decide) ?_
        exact j_back [1, 0] ((x1 + (1 : Int32)), h18) rfl rfl
    exact j_loop (S := (Int32 × Hp)) (lvf := fun s => [(0, vR x.2.2.2 x0), (1, .int s.1)]) (hpf := fun s => s.2) (f := (fun s : (Int32 × Hp) => mX0_init_l23f x0 s.1 s.2)) (fun s => hB s.1 s.2) (x1, h)
  unfold mX0_init
  refine j_aload_n (q := 1) hx (dc kX0_init_0 0 rfl) rfl 0 rfl rfl ?_
  refine j_obj (q := 4) hx (dc kX0_init_0 1 rfl) lo_X0_3 hvx0 (by decide) (Nat.zero_le _) rfl ?_
  refine j_aload_n (q := 5) hx (dc kX0_init_0 2 rfl) rfl 0 rfl rfl ?_
  refine j_bipush (q := 7) (v := (16 : Int32)) hx (dc kX0_init_0 3 rfl) (by decide) rfl ?_
  refine j_anewarray65 (q := 10) hx (dc kX0_init_0 4 rfl) na_X0_9 (by decide) (by decide) (by decide) rfl (fun v2 hvv2 h1 => ?_)
  refine w_sR (q := 13) hx (dc kX0_init_0 5 rfl) ff_X0_0 lk_X0_11 (Or.inr ⟨hnm, rfl, rfl, lt_X0_11⟩) rfl (fun h3 => ?_)
  refine j_aload_n (q := 14) hx (dc kX0_init_0 6 rfl) rfl 0 rfl rfl ?_
  refine j_iconst (q := 15) (v := (2 : Int32)) hx (dc kX0_init_0 7 rfl) (by decide) rfl ?_
  refine j_anewarray65 (q := 18) hx (dc kX0_init_0 8 rfl) na_X0_9 (by decide) (by decide) (by decide) rfl (fun v5 hvv5 h4 => ?_)
  refine w_sR (q := 21) hx (dc kX0_init_0 9 rfl) ff_X0_1 lk_X0_17 (Or.inr ⟨hnm, rfl, rfl, lt_X0_17⟩) rfl (fun h6 => ?_)
  refine j_iconst (q := 22) (v := (0 : Int32)) hx (dc kX0_init_0 10 rfl) (by decide) rfl ?_
  refine j_istore_n (q := 23) (i := 1) (l2 := [(0, vR x.2.2.2 x0)]) hx (dc kX0_init_0 11 rfl) rfl (hn 1 (by decide)) [0] rfl ⟨⟨show (0 : Nat) ≠ 1 by decide, Or.inr (vR_cat _ _)⟩, trivial⟩ rfl ?_
  exact j_sub [1, 0] rfl (hb23 x0 (0 : Int32) h6)

set_option maxHeartbeats 4000000 in
set_option maxRecDepth 100000 in
theorem sX0_forget (l : Launch) (w : Wd) (x0 : Nat) (h : Hp) (u : Hp) (hK : mX0_forget x0 h = some u) : M1 l w mi_X0_forget 1 [vR w x0] h u (none) := by
  refine M1.of (own := RX0) (T := fun _ r => r = u) hK (by decide +kernel) rfl (by first | (simp only [lg_lenR, lg_lenI, lg_lenL, lg_len0]; decide) | decide) (fun x hx hnl hhf hl hw hret hnm hQ h0e => ⟨?_, rfl⟩)
  subst hw
  subst hl
  have hR : Rt x h u (none) (none) := ⟨h0e, hhf, hret, hQ⟩
  have hn : ∀ i, i < 1 → i < x.2.2.1.1.1 := fun i hi => by rw [hnl]; exact hi
  have e0 : lv_args 0 [vR x.2.2.2 x0] = [(0, vR x.2.2.2 x0)] := by simp only [lv_argsR, lv_argsI, lv_argsL, lv_args0]
  rw [e0]
  unfold mX0_forget
  refine J.ckd fun hck => ?_
  refine j_aload_n (q := 1) hx (dc kX0_forget_0 0 rfl) rfl 0 rfl rfl ?_
  refine j_iconst (q := 2) (v := (0 : Int32)) hx (dc kX0_forget_0 1 rfl) (by decide) rfl ?_
  refine w_sI (q := 5) hx (dc kX0_forget_0 2 rfl) ff_X0_4 rfl lk_X0_21 (Or.inl rfl) rfl (fun h1 => ?_)
  refine j_aload_n (q := 6) hx (dc kX0_forget_0 3 rfl) rfl 0 rfl rfl ?_
  refine j_iconst (q := 7) (v := (0 : Int32)) hx (dc kX0_forget_0 4 rfl) (by decide) rfl ?_
  refine w_sI (q := 10) hx (dc kX0_forget_0 5 rfl) ff_X0_2 rfl lk_X0_25 (Or.inl rfl) rfl (fun h2 => ?_)
  exact r_vW hx hR (dc kX0_forget_0 6 rfl)

set_option maxHeartbeats 4000000 in
set_option maxRecDepth 100000 in
theorem sX11_copyRow (l : Launch) (w : Wd) (x0 : Nat) (x1 : Nat) (h : Hp) (u : Hp) (hK : mX11_copyRow x0 x1 h = some u) : M1 l w mi_X11_copyRow 1 [vR w x0, vR w x1] h u (none) := by
  refine M1.of (own := RX11) (T := fun _ r => r = u) hK (by decide +kernel) rfl (by first | (simp only [lg_lenR, lg_lenI, lg_lenL, lg_len0]; decide) | decide) (fun x hx hnl hhf hl hw hret hnm hQ h0e => ⟨?_, rfl⟩)
  subst hw
  subst hl
  have hR : Rt x h u (none) (none) := ⟨h0e, hhf, hret, hQ⟩
  have hn : ∀ i, i < 3 → i < x.2.2.1.1.1 := fun i hi => by rw [hnl]; exact hi
  have e0 : lv_args 0 [vR x.2.2.2 x0, vR x.2.2.2 x1] = [(0, vR x.2.2.2 x0), (1, vR x.2.2.2 x1)] := by simp only [lv_argsR, lv_argsI, lv_argsL, lv_args0]
  rw [e0]
  have hb2 : ∀ (x0 : Nat) (x1 : Nat) (x2 : Int32) (h : Hp), J x 2 [(0, vR x.2.2.2 x0), (1, vR x.2.2.2 x1), (2, .int x2)] [] h (mX11_copyRow_l2 x0 x1 x2 h) (fun r => r = u) := by
    intro x0 x1 x2 h
    have hB : ∀ (x2 : Int32) (h : Hp), J x 2 [(0, vR x.2.2.2 x0), (1, vR x.2.2.2 x1), (2, .int x2)] [] h (mX11_copyRow_l2f x0 x1 x2 h) (TLo (S := (Int32 × Hp)) x 2 (fun s => [(0, vR x.2.2.2 x0), (1, vR x.2.2.2 x1), (2, .int s.1)]) [] (fun s => s.2) (fun r => r = u)) := by
      intro x2 h
      unfold mX11_copyRow_l2f
      refine j_iload_n (q := 3) hx (dc kX11_copyRow_0 2 rfl) rfl 2 rfl rfl ?_
      refine j_aload_n (q := 4) hx (dc kX11_copyRow_0 3 rfl) rfl 0 rfl rfl ?_
      refine j_alen (q := 5) hx (dc kX11_copyRow_0 4 rfl) rfl (fun v1 => ?_)
      refine j_icmp_geS (q := 8) (tgt := 26) hx (dc kX11_copyRow_0 5 rfl) (by decide) rfl ?_ ?_
      · refine j_exit ?_
        exact r_vW hx hR (dc kX11_copyRow_0 18 rfl)
      · refine j_iload_n (q := 9) hx (dc kX11_copyRow_0 6 rfl) rfl 2 rfl rfl ?_
        refine j_aload_n (q := 10) hx (dc kX11_copyRow_0 7 rfl) rfl 1 rfl rfl ?_
        refine j_alen (q := 11) hx (dc kX11_copyRow_0 8 rfl) rfl (fun v2 => ?_)
        refine j_icmp_geS (q := 14) (tgt := 26) hx (dc kX11_copyRow_0 9 rfl) (by decide) rfl ?_ ?_
        · refine j_exit ?_
          exact r_vW hx hR (dc kX11_copyRow_0 18 rfl)
        · refine j_aload_n (q := 15) hx (dc kX11_copyRow_0 10 rfl) rfl 1 rfl rfl ?_
          refine j_iload_n (q := 16) hx (dc kX11_copyRow_0 11 rfl) rfl 2 rfl rfl ?_
          refine j_aload_n (q := 17) hx (dc kX11_copyRow_0 12 rfl) rfl 0 rfl rfl ?_
          refine j_iload_n (q := 18) hx (dc kX11_copyRow_0 13 rfl) rfl 2 rfl rfl ?_
          refine j_ldI (q := 19) hx (dc kX11_copyRow_0 14 rfl) rfl (fun v3 => ?_)
          refine w_stI (q := 20) hx (dc kX11_copyRow_0 15 rfl) rfl (fun h4 => ?_)
          refine j_iinc (q := 23) (l2 := [(0, vR x.2.2.2 x0), (1, vR x.2.2.2 x1)]) hx (dc kX11_copyRow_0 16 rfl) 2 rfl (v := (1 : Int32)) (by decide) (hn 2 (by decide)) [0, 1] rfl ⟨⟨show (0 : Nat) ≠ 2 by decide, Or.inl (show (0 : Nat) + 1 ≠ 2 by decide)⟩, ⟨⟨show (1 : Nat) ≠ 2 by decide, Or.inr (vR_cat _ _)⟩, trivial⟩⟩ rfl ?_
          refine j_goto (q := 2) hx (dc kX11_copyRow_0 17 rfl) (by decide) ?_
          exact j_back [1, 2, 0] ((x2 + (1 : Int32)), h4) rfl rfl
    exact j_loop (S := (Int32 × Hp)) (lvf := fun s => [(0, vR x.2.2.2 x0), (1, vR x.2.2.2 x1), (2, .int s.1)]) (hpf := fun s => s.2) (f := (fun s : (Int32 × Hp) => mX11_copyRow_l2f x0 x1 s.1 s.2)) (fun s => hB s.1 s.2) (x2, h)
  unfold mX11_copyRow
  refine j_iconst (q := 1) (v := (0 : Int32)) hx (dc kX11_copyRow_0 0 rfl) (by decide) rfl ?_
  refine j_istore_n (q := 2) (i := 2) (l2 := [(0, vR x.2.2.2 x0), (1, vR x.2.2.2 x1)]) hx (dc kX11_copyRow_0 1 rfl) rfl (hn 2 (by decide)) [0, 1] rfl ⟨⟨show (0 : Nat) ≠ 2 by decide, Or.inl (show (0 : Nat) + 1 ≠ 2 by decide)⟩, ⟨⟨show (1 : Nat) ≠ 2 by decide, Or.inr (vR_cat _ _)⟩, trivial⟩⟩ rfl ?_
  exact j_sub [1, 2, 0] rfl (hb2 x0 x1 (0 : Int32) h)

set_option maxHeartbeats 4000000 in
set_option maxRecDepth 100000 in
theorem sX5_copy (l : Launch) (w : Wd) (x0 : Nat) (x1 : Nat) (h : Hp) (u : Hp) (hK : mX5_copy x0 x1 h = some u) : M1 l w mi_X5_copy 2 [vR w x0, vR w x1] h u (none) := by
  refine M1.of (own := RX5) (T := fun _ r => r = u) hK (by decide +kernel) rfl (by first | (simp only [lg_lenR, lg_lenI, lg_lenL, lg_len0]; decide) | decide) (fun x hx hnl hhf hl hw hret hnm hQ h0e => ⟨?_, rfl⟩)
  subst hw
  subst hl
  have hR : Rt x h u (none) (none) := ⟨h0e, hhf, hret, hQ⟩
  have hn : ∀ i, i < 2 → i < x.2.2.1.1.1 := fun i hi => by rw [hnl]; exact hi
  have e0 : lv_args 0 [vR x.2.2.2 x0, vR x.2.2.2 x1] = [(0, vR x.2.2.2 x0), (1, vR x.2.2.2 x1)] := by simp only [lv_argsR, lv_argsI, lv_argsL, lv_args0]
  rw [e0]
  unfold mX5_copy
  refine J.ckd fun hck => ?_
  refine j_aload_n (q := 1) hx (dc kX5_copy_0 0 rfl) rfl 0 rfl rfl ?_
  refine j_aload_n (q := 2) hx (dc kX5_copy_0 1 rfl) rfl 1 rfl rfl ?_
  refine w_gI (q := 5) hx (dc kX5_copy_0 2 rfl) ff_X5_0 lk_X5_30 rfl (fun v1 => ?_)
  refine w_sI (q := 8) hx (dc kX5_copy_0 3 rfl) ff_X5_0 rfl lk_X5_30 (Or.inl rfl) rfl (fun h2 => ?_)
  refine j_aload_n (q := 9) hx (dc kX5_copy_0 4 rfl) rfl 0 rfl rfl ?_
  refine j_aload_n (q := 10) hx (dc kX5_copy_0 5 rfl) rfl 1 rfl rfl ?_
  refine w_gI (q := 13) hx (dc kX5_copy_0 6 rfl) ff_X5_1 lk_X5_34 rfl (fun v3 => ?_)
  refine w_sZ (q := 16) hx (dc kX5_copy_0 7 rfl) ff_X5_1 rfl lk_X5_34 (Or.inl rfl) rfl (fun h4 => ?_)
  refine j_aload_n (q := 17) hx (dc kX5_copy_0 8 rfl) rfl 0 rfl rfl ?_
  refine j_aload_n (q := 18) hx (dc kX5_copy_0 9 rfl) rfl 1 rfl rfl ?_
  refine w_gI (q := 21) hx (dc kX5_copy_0 10 rfl) ff_X5_2 lk_X5_38 rfl (fun v5 => ?_)
  refine w_sI (q := 24) hx (dc kX5_copy_0 11 rfl) ff_X5_2 rfl lk_X5_38 (Or.inl rfl) rfl (fun h6 => ?_)
  refine j_aload_n (q := 25) hx (dc kX5_copy_0 12 rfl) rfl 0 rfl rfl ?_
  refine j_aload_n (q := 26) hx (dc kX5_copy_0 13 rfl) rfl 1 rfl rfl ?_
  refine w_gI (q := 29) hx (dc kX5_copy_0 14 rfl) ff_X5_3 lk_X5_41 rfl (fun v7 => ?_)
  refine w_sI (q := 32) hx (dc kX5_copy_0 15 rfl) ff_X5_3 rfl lk_X5_41 (Or.inl rfl) rfl (fun h8 => ?_)
  refine j_aload_n (q := 33) hx (dc kX5_copy_0 16 rfl) rfl 0 rfl rfl ?_
  refine j_aload_n (q := 34) hx (dc kX5_copy_0 17 rfl) rfl 1 rfl rfl ?_
  refine w_gI (q := 37) hx (dc kX5_copy_0 18 rfl) ff_X5_4 lk_X5_44 rfl (fun v9 => ?_)
  refine w_sI (q := 40) hx (dc kX5_copy_0 19 rfl) ff_X5_4 rfl lk_X5_44 (Or.inl rfl) rfl (fun h10 => ?_)
  refine j_aload_n (q := 41) hx (dc kX5_copy_0 20 rfl) rfl 0 rfl rfl ?_
  refine j_aload_n (q := 42) hx (dc kX5_copy_0 21 rfl) rfl 1 rfl rfl ?_
  refine w_gI (q := 45) hx (dc kX5_copy_0 22 rfl) ff_X5_5 lk_X5_47 rfl (fun v11 => ?_)
  refine w_sI (q := 48) hx (dc kX5_copy_0 23 rfl) ff_X5_5 rfl lk_X5_47 (Or.inl rfl) rfl (fun h12 => ?_)
  refine j_aload_n (q := 49) hx (dc kX5_copy_0 24 rfl) rfl 0 rfl rfl ?_
  refine j_aload_n (q := 50) hx (dc kX5_copy_0 25 rfl) rfl 1 rfl rfl ?_
  refine w_gI (q := 53) hx (dc kX5_copy_0 26 rfl) ff_X5_6 lk_X5_50 rfl (fun v13 => ?_)
  refine w_sI (q := 56) hx (dc kX5_copy_0 27 rfl) ff_X5_6 rfl lk_X5_50 (Or.inl rfl) rfl (fun h14 => ?_)
  refine j_aload_n (q := 57) hx (dc kX5_copy_0 28 rfl) rfl 0 rfl rfl ?_
  refine j_aload_n (q := 58) hx (dc kX5_copy_0 29 rfl) rfl 1 rfl rfl ?_
  refine w_gI (q := 61) hx (dc kX5_copy_0 30 rfl) ff_X5_7 lk_X5_53 rfl (fun v15 => ?_)
  refine w_sI (q := 64) hx (dc kX5_copy_0 31 rfl) ff_X5_7 rfl lk_X5_53 (Or.inl rfl) rfl (fun h16 => ?_)
  refine j_aload_n (q := 65) hx (dc kX5_copy_0 32 rfl) rfl 0 rfl rfl ?_
  refine j_aload_n (q := 66) hx (dc kX5_copy_0 33 rfl) rfl 1 rfl rfl ?_
  refine w_gI (q := 69) hx (dc kX5_copy_0 34 rfl) ff_X5_8 lk_X5_56 rfl (fun v17 => ?_)
  refine w_sI (q := 72) hx (dc kX5_copy_0 35 rfl) ff_X5_8 rfl lk_X5_56 (Or.inl rfl) rfl (fun h18 => ?_)
  refine j_aload_n (q := 73) hx (dc kX5_copy_0 36 rfl) rfl 1 rfl rfl ?_
  refine w_gR (q := 76) hx (dc kX5_copy_0 37 rfl) ff_X5_9 lk_X5_9 rfl (fun v19 => ?_)
  refine j_aload_n (q := 77) hx (dc kX5_copy_0 38 rfl) rfl 0 rfl rfl ?_
  refine w_gR (q := 80) hx (dc kX5_copy_0 39 rfl) ff_X5_9 lk_X5_9 rfl (fun v20 => ?_)
  refine w_cSVW (q := 83) (As := [vR x.2.2.2 v19, vR x.2.2.2 v20]) (st := []) hx (dc kX5_copy_0 40 rfl) (cI _ my_X11_copyRow lm_X5_59 (by decide)) st_X11_copyRow rfl (fun u hu => sX11_copyRow _ _ _ _ _ _ hu) (Nat.zero_le _) rfl (fun h22 => ?_)
  refine j_aload_n (q := 84) hx (dc kX5_copy_0 41 rfl) rfl 1 rfl rfl ?_
  refine w_gR (q := 87) hx (dc kX5_copy_0 42 rfl) ff_X5_10 lk_X5_15 rfl (fun v23 => ?_)
  refine j_aload_n (q := 88) hx (dc kX5_copy_0 43 rfl) rfl 0 rfl rfl ?_
  refine w_gR (q := 91) hx (dc kX5_copy_0 44 rfl) ff_X5_10 lk_X5_15 rfl (fun v24 => ?_)
  refine w_cSVW (q := 94) (As := [vR x.2.2.2 v23, vR x.2.2.2 v24]) (st := []) hx (dc kX5_copy_0 45 rfl) (cI _ my_X11_copyRow lm_X5_59 (by decide)) st_X11_copyRow rfl (fun u hu => sX11_copyRow _ _ _ _ _ _ hu) (Nat.zero_le _) rfl (fun h26 => ?_)
  refine j_aload_n (q := 95) hx (dc kX5_copy_0 46 rfl) rfl 1 rfl rfl ?_
  refine w_gR (q := 98) hx (dc kX5_copy_0 47 rfl) ff_X5_11 lk_X5_18 rfl (fun v27 => ?_)
  refine j_aload_n (q := 99) hx (dc kX5_copy_0 48 rfl) rfl 0 rfl rfl ?_
  refine w_gR (q := 102) hx (dc kX5_copy_0 49 rfl) ff_X5_11 lk_X5_18 rfl (fun v28 => ?_)
  refine w_cSVW (q := 105) (As := [vR x.2.2.2 v27, vR x.2.2.2 v28]) (st := []) hx (dc kX5_copy_0 50 rfl) (cI _ my_X11_copyRow lm_X5_59 (by decide)) st_X11_copyRow rfl (fun u hu => sX11_copyRow _ _ _ _ _ _ hu) (Nat.zero_le _) rfl (fun h30 => ?_)
  refine j_aload_n (q := 106) hx (dc kX5_copy_0 51 rfl) rfl 1 rfl rfl ?_
  refine w_gR (q := 109) hx (dc kX5_copy_0 52 rfl) ff_X5_12 lk_X5_21 rfl (fun v31 => ?_)
  refine j_aload_n (q := 110) hx (dc kX5_copy_0 53 rfl) rfl 0 rfl rfl ?_
  refine w_gR (q := 113) hx (dc kX5_copy_0 54 rfl) ff_X5_12 lk_X5_21 rfl (fun v32 => ?_)
  refine w_cSVW (q := 116) (As := [vR x.2.2.2 v31, vR x.2.2.2 v32]) (st := []) hx (dc kX5_copy_0 55 rfl) (cI _ my_X11_copyRow lm_X5_59 (by decide)) st_X11_copyRow rfl (fun u hu => sX11_copyRow _ _ _ _ _ _ hu) (Nat.zero_le _) rfl (fun h34 => ?_)
  refine j_aload_n (q := 117) hx (dc kX5_copy_0 56 rfl) rfl 1 rfl rfl ?_
  refine w_gR (q := 120) hx (dc kX5_copy_0 57 rfl) ff_X5_13 lk_X5_24 rfl (fun v35 => ?_)
  refine j_aload_n (q := 121) hx (dc kX5_copy_0 58 rfl) rfl 0 rfl rfl ?_
  refine w_gR (q := 124) hx (dc kX5_copy_0 59 rfl) ff_X5_13 lk_X5_24 rfl (fun v36 => ?_)
  refine w_cSVW (q := 127) (As := [vR x.2.2.2 v35, vR x.2.2.2 v36]) (st := []) hx (dc kX5_copy_0 60 rfl) (cI _ my_X11_copyRow lm_X5_59 (by decide)) st_X11_copyRow rfl (fun u hu => sX11_copyRow _ _ _ _ _ _ hu) (Nat.zero_le _) rfl (fun h38 => ?_)
  refine j_aload_n (q := 128) hx (dc kX5_copy_0 61 rfl) rfl 1 rfl rfl ?_
  refine w_gR (q := 131) hx (dc kX5_copy_0 62 rfl) ff_X5_14 lk_X5_27 rfl (fun v39 => ?_)
  refine j_aload_n (q := 132) hx (dc kX5_copy_0 63 rfl) rfl 0 rfl rfl ?_
  refine w_gR (q := 135) hx (dc kX5_copy_1 0 rfl) ff_X5_14 lk_X5_27 rfl (fun v40 => ?_)
  refine w_cSVW (q := 138) (As := [vR x.2.2.2 v39, vR x.2.2.2 v40]) (st := []) hx (dc kX5_copy_1 1 rfl) (cI _ my_X11_copyRow lm_X5_59 (by decide)) st_X11_copyRow rfl (fun u hu => sX11_copyRow _ _ _ _ _ _ hu) (Nat.zero_le _) rfl (fun h42 => ?_)
  exact r_vW hx hR (dc kX5_copy_1 2 rfl)

set_option maxHeartbeats 4000000 in
set_option maxRecDepth 100000 in
theorem sX0_note (l : Launch) (w : Wd) (x0 : Nat) (x1 : Nat) (h : Hp) (u : Hp) (hK : mX0_note x0 x1 h = some u) : M1 l w mi_X0_note 3 [vR w x0, vR w x1] h u (none) := by
  refine M1.of (own := RX0) (T := fun _ r => r = u) hK (by decide +kernel) rfl (by first | (simp only [lg_lenR, lg_lenI, lg_lenL, lg_len0]; decide) | decide) (fun x hx hnl hhf hl hw hret hnm hQ h0e => ⟨?_, rfl⟩)
  subst hw
  subst hl
  have hR : Rt x h u (none) (none) := ⟨h0e, hhf, hret, hQ⟩
  have hn : ∀ i, i < 2 → i < x.2.2.1.1.1 := fun i hi => by rw [hnl]; exact hi
  have e0 : lv_args 0 [vR x.2.2.2 x0, vR x.2.2.2 x1] = [(0, vR x.2.2.2 x0), (1, vR x.2.2.2 x1)] := by simp only [lv_argsR, lv_argsI, lv_argsL, lv_args0]
  rw [e0]
  have hb44 : ∀ (x0 : Nat) (h : Hp), J x 44 [(0, vR x.2.2.2 x0)] [] h (mX0_note_b44 x0 h) (fun r => r = u) := by
    intro x0 h
    unfold mX0_note_b44
    refine j_aload_n (q := 45) hx (dc kX0_note_0 22 rfl) rfl 0 rfl rfl ?_
    refine j_aload_n (q := 46) hx (dc kX0_note_0 23 rfl) rfl 0 rfl rfl ?_
    refine w_gI (q := 49) hx (dc kX0_note_0 24 rfl) ff_X0_3 lk_X0_28 rfl (fun v2 => ?_)
    refine j_iconst (q := 50) (v := (1 : Int32)) hx (dc kX0_note_0 25 rfl) (by decide) rfl ?_
    refine j_iadd (q := 51) hx (dc kX0_note_0 26 rfl) rfl ?_
    refine j_bipush (q := 53) (v := (15 : Int32)) hx (dc kX0_note_0 27 rfl) (by decide) rfl ?_
    refine j_iand (q := 54) hx (dc kX0_note_0 28 rfl) rfl ?_
    refine w_sI (q := 57) hx (dc kX0_note_0 29 rfl) ff_X0_3 rfl lk_X0_28 (Or.inl rfl) rfl (fun h3 => ?_)
    refine j_aload_n (q := 58) hx (dc kX0_note_0 30 rfl) rfl 0 rfl rfl ?_
    refine j_aload_n (q := 59) hx (dc kX0_note_0 31 rfl) rfl 0 rfl rfl ?_
    refine w_gI (q := 62) hx (dc kX0_note_0 32 rfl) ff_X0_4 lk_X0_21 rfl (fun v4 => ?_)
    refine j_iconst (q := 63) (v := (1 : Int32)) hx (dc kX0_note_0 33 rfl) (by decide) rfl ?_
    refine j_iadd (q := 64) hx (dc kX0_note_0 34 rfl) rfl ?_
    refine j_bipush (q := 66) (v := (16 : Int32)) hx (dc kX0_note_0 35 rfl) (by decide) rfl ?_
    refine w_mmin (q := 69) hx (dc kX0_note_0 36 rfl) lm_X0_35 ms_mmin ms_init mc_mmin (by decide) (sum_le (sum_R sum_nil) (by decide)) rfl ?_
    refine w_sI (q := 72) hx (dc kX0_note_0 37 rfl) ff_X0_4 rfl lk_X0_21 (Or.inl rfl) rfl (fun h5 => ?_)
    exact r_vW hx hR (dc kX0_note_0 38 rfl)
  unfold mX0_note
  refine J.ckd fun hck => ?_
  refine j_aload_n (q := 1) hx (dc kX0_note_0 0 rfl) rfl 0 rfl rfl ?_
  refine w_gI (q := 4) hx (dc kX0_note_0 1 rfl) ff_X0_3 lk_X0_28 rfl (fun v1 => ?_)
  refine j_if_lt (q := 7) (tgt := 44) hx (dc kX0_note_0 2 rfl) (by decide) Iff.rfl rfl ?_ ?_
  · exact j_sub [0] rfl (hb44 x0 h)
  · refine j_aload_n (q := 8) hx (dc kX0_note_0 3 rfl) rfl 0 rfl rfl ?_
    refine w_gI (q := 11) hx (dc kX0_note_0 4 rfl) ff_X0_3 lk_X0_28 rfl (fun v6 => ?_)
    refine j_aload_n (q := 12) hx (dc kX0_note_0 5 rfl) rfl 0 rfl rfl ?_
    refine w_gR (q := 15) hx (dc kX0_note_0 6 rfl) ff_X0_0 lk_X0_11 rfl (fun v7 => ?_)
    refine j_alen (q := 16) hx (dc kX0_note_0 7 rfl) rfl (fun v8 => ?_)
    refine j_icmp_geS (q := 19) (tgt := 44) hx (dc kX0_note_0 8 rfl) (by decide) rfl ?_ ?_
    · exact j_sub [0] rfl (hb44 x0 h)
    · refine j_aload_n (q := 20) hx (dc kX0_note_0 9 rfl) rfl 0 rfl rfl ?_
      refine w_gR (q := 23) hx (dc kX0_note_0 10 rfl) ff_X0_0 lk_X0_11 rfl (fun v9 => ?_)
      refine j_aload_n (q := 24) hx (dc kX0_note_0 11 rfl) rfl 0 rfl rfl ?_
      refine w_gI (q := 27) hx (dc kX0_note_0 12 rfl) ff_X0_3 lk_X0_28 rfl (fun v10 => ?_)
      refine j_ldR (t := 0) (q := 28) hx (dc kX0_note_0 13 rfl) rfl (by decide) rfl (fun v11 => ?_)
      refine j_ifnull (q := 31) (tgt := 44) hx (dc kX0_note_0 14 rfl) (by decide) rfl ?_ ?_
      · exact j_sub [0] rfl (hb44 x0 h)
      · refine j_aload_n (q := 32) hx (dc kX0_note_0 15 rfl) rfl 0 rfl rfl ?_
        refine w_gR (q := 35) hx (dc kX0_note_0 16 rfl) ff_X0_0 lk_X0_11 rfl (fun v12 => ?_)
        refine j_aload_n (q := 36) hx (dc kX0_note_0 17 rfl) rfl 0 rfl rfl ?_
        refine w_gI (q := 39) hx (dc kX0_note_0 18 rfl) ff_X0_3 lk_X0_28 rfl (fun v13 => ?_)
        refine j_ldR (t := 0) (q := 40) hx (dc kX0_note_0 19 rfl) rfl (by decide) rfl (fun v14 => ?_)
        refine j_aload_n (q := 41) hx (dc kX0_note_0 20 rfl) rfl 1 rfl rfl ?_
        refine w_cVVW (q := 44) (As := [vR x.2.2.2 x1]) (st := []) hx (dc kX0_note_0 21 rfl) cf5 (by decide) rfl (cI _ my_X5_copy lm_X0_31 (by decide)) vs_X5_copy rfl (fun u hu => sX5_copy _ _ _ _ _ _ hu) (fun e => ite_ne (by unfold mX5_copy at e; exact e)) (Nat.zero_le _) rfl (fun h16 => ?_)
        exact j_sub [0] rfl (hb44 x0 h16)

set_option maxHeartbeats 4000000 in
set_option maxRecDepth 100000 in
theorem sX0_takeBack (l : Launch) (w : Wd) (x0 : Nat) (x1 : Nat) (h : Hp) (u : (Int32 × Hp)) (hK : mX0_takeBack x0 x1 h = some u) : M1 l w mi_X0_takeBack 3 [vR w x0, vR w x1] h u.2 (some (.int u.1)) := by
  refine M1.of (own := RX0) (T := fun _ r => r = u) hK (by decide +kernel) rfl (by first | (simp only [lg_lenR, lg_lenI, lg_lenL, lg_len0]; decide) | decide) (fun x hx hnl hhf hl hw hret hnm hQ h0e => ⟨?_, rfl⟩)
  subst hw
  subst hl
  have hR : Rt x h u.2 (some (.int u.1)) ((some .boolean)) := ⟨h0e, hhf, hret, hQ⟩
  have hn : ∀ i, i < 2 → i < x.2.2.1.1.1 := fun i hi => by rw [hnl]; exact hi
  have e0 : lv_args 0 [vR x.2.2.2 x0, vR x.2.2.2 x1] = [(0, vR x.2.2.2 x0), (1, vR x.2.2.2 x1)] := by simp only [lv_argsR, lv_argsI, lv_argsL, lv_args0]
  rw [e0]
  unfold mX0_takeBack
  refine J.ckd fun hck => ?_
  refine j_aload_n (q := 1) hx (dc kX0_takeBack_0 0 rfl) rfl 0 rfl rfl ?_
  refine w_gI (q := 4) hx (dc kX0_takeBack_0 1 rfl) ff_X0_4 lk_X0_21 rfl (fun v1 => ?_)
  refine j_if_neS (q := 7) (tgt := 9) hx (dc kX0_takeBack_0 2 rfl) (by decide) rfl ?_ ?_
  · refine j_aload_n (q := 10) hx (dc kX0_takeBack_0 5 rfl) rfl 0 rfl rfl ?_
    refine j_aload_n (q := 11) hx (dc kX0_takeBack_0 6 rfl) rfl 0 rfl rfl ?_
    refine w_gI (q := 14) hx (dc kX0_takeBack_0 7 rfl) ff_X0_3 lk_X0_28 rfl (fun v2 => ?_)
    refine j_iconst (q := 15) (v := (1 : Int32)) hx (dc kX0_takeBack_0 8 rfl) (by decide) rfl ?_
    refine j_isub (q := 16) hx (dc kX0_takeBack_0 9 rfl) rfl ?_
    refine j_bipush (q := 18) (v := (15 : Int32)) hx (dc kX0_takeBack_0 10 rfl) (by decide) rfl ?_
    refine j_iand (q := 19) hx (dc kX0_takeBack_0 11 rfl) rfl ?_
    refine w_sI (q := 22) hx (dc kX0_takeBack_0 12 rfl) ff_X0_3 rfl lk_X0_28 (Or.inl rfl) rfl (fun h3 => ?_)
    refine j_aload_n (q := 23) hx (dc kX0_takeBack_0 13 rfl) rfl 0 rfl rfl ?_
    refine j_dup (q := 24) hx (dc kX0_takeBack_0 14 rfl) (vR_cat _ _) rfl ?_
    refine w_gI (q := 27) hx (dc kX0_takeBack_0 15 rfl) ff_X0_4 lk_X0_21 rfl (fun v4 => ?_)
    refine j_iconst (q := 28) (v := (1 : Int32)) hx (dc kX0_takeBack_0 16 rfl) (by decide) rfl ?_
    refine j_isub (q := 29) hx (dc kX0_takeBack_0 17 rfl) rfl ?_
    refine w_sI (q := 32) hx (dc kX0_takeBack_0 18 rfl) ff_X0_4 rfl lk_X0_21 (Or.inl rfl) rfl (fun h5 => ?_)
    refine j_aload_n (q := 33) hx (dc kX0_takeBack_0 19 rfl) rfl 0 rfl rfl ?_
    refine w_gI (q := 36) hx (dc kX0_takeBack_0 20 rfl) ff_X0_3 lk_X0_28 rfl (fun v6 => ?_)
    refine j_if_lt (q := 39) (tgt := 76) hx (dc kX0_takeBack_0 21 rfl) (by decide) Iff.rfl rfl ?_ ?_
    · refine j_iconst (q := 77) (v := (1 : Int32)) hx (dc kX0_takeBack_0 41 rfl) (by decide) rfl ?_
      exact r_cW hx (Or.inr rfl) hR (dc kX0_takeBack_0 42 rfl)
    · refine j_aload_n (q := 40) hx (dc kX0_takeBack_0 22 rfl) rfl 0 rfl rfl ?_
      refine w_gI (q := 43) hx (dc kX0_takeBack_0 23 rfl) ff_X0_3 lk_X0_28 rfl (fun v7 => ?_)
      refine j_aload_n (q := 44) hx (dc kX0_takeBack_0 24 rfl) rfl 0 rfl rfl ?_
      refine w_gR (q := 47) hx (dc kX0_takeBack_0 25 rfl) ff_X0_0 lk_X0_11 rfl (fun v8 => ?_)
      refine j_alen (q := 48) hx (dc kX0_takeBack_0 26 rfl) rfl (fun v9 => ?_)
      refine j_icmp_geS (q := 51) (tgt := 76) hx (dc kX0_takeBack_0 27 rfl) (by decide) rfl ?_ ?_
      · refine j_iconst (q := 77) (v := (1 : Int32)) hx (dc kX0_takeBack_0 41 rfl) (by decide) rfl ?_
        exact r_cW hx (Or.inr rfl) hR (dc kX0_takeBack_0 42 rfl)
      · refine j_aload_n (q := 52) hx (dc kX0_takeBack_0 28 rfl) rfl 0 rfl rfl ?_
        refine w_gR (q := 55) hx (dc kX0_takeBack_0 29 rfl) ff_X0_0 lk_X0_11 rfl (fun v10 => ?_)
        refine j_aload_n (q := 56) hx (dc kX0_takeBack_0 30 rfl) rfl 0 rfl rfl ?_
        refine w_gI (q := 59) hx (dc kX0_takeBack_0 31 rfl) ff_X0_3 lk_X0_28 rfl (fun v11 => ?_)
        refine j_ldR (t := 0) (q := 60) hx (dc kX0_takeBack_0 32 rfl) rfl (by decide) rfl (fun v12 => ?_)
        refine j_ifnull (q := 63) (tgt := 76) hx (dc kX0_takeBack_0 33 rfl) (by decide) rfl ?_ ?_
        · refine j_iconst (q := 77) (v := (1 : Int32)) hx (dc kX0_takeBack_0 41 rfl) (by decide) rfl ?_
          exact r_cW hx (Or.inr rfl) hR (dc kX0_takeBack_0 42 rfl)
        · refine j_aload_n (q := 64) hx (dc kX0_takeBack_0 34 rfl) rfl 1 rfl rfl ?_
          refine j_aload_n (q := 65) hx (dc kX0_takeBack_0 35 rfl) rfl 0 rfl rfl ?_
          refine w_gR (q := 68) hx (dc kX0_takeBack_0 36 rfl) ff_X0_0 lk_X0_11 rfl (fun v13 => ?_)
          refine j_aload_n (q := 69) hx (dc kX0_takeBack_0 37 rfl) rfl 0 rfl rfl ?_
          refine w_gI (q := 72) hx (dc kX0_takeBack_0 38 rfl) ff_X0_3 lk_X0_28 rfl (fun v14 => ?_)
          refine j_ldR (t := 0) (q := 73) hx (dc kX0_takeBack_0 39 rfl) rfl (by decide) rfl (fun v15 => ?_)
          refine w_cVVW (q := 76) (As := [vR x.2.2.2 v15]) (st := []) hx (dc kX0_takeBack_0 40 rfl) cf5 (by decide) rfl (cI _ my_X5_copy lm_X0_31 (by decide)) vs_X5_copy rfl (fun u hu => sX5_copy _ _ _ _ _ _ hu) (fun e => ite_ne (by unfold mX5_copy at e; exact e)) (Nat.zero_le _) rfl (fun h17 => ?_)
          refine j_iconst (q := 77) (v := (1 : Int32)) hx (dc kX0_takeBack_0 41 rfl) (by decide) rfl ?_
          exact r_cW hx (Or.inr rfl) hR (dc kX0_takeBack_0 42 rfl)
  · refine j_iconst (q := 8) (v := (0 : Int32)) hx (dc kX0_takeBack_0 3 rfl) (by decide) rfl ?_
    exact r_cW hx (Or.inl rfl) hR (dc kX0_takeBack_0 4 rfl)

set_option maxHeartbeats 4000000 in
set_option maxRecDepth 100000 in
theorem sX0_store (l : Launch) (w : Wd) (x0 : Nat) (x1 : Int32) (x2 : Nat) (h : Hp) (u : (Int32 × Hp)) (hK : mX0_store x0 x1 x2 h = some u) : M1 l w mi_X0_store 3 [vR w x0, .int x1, vR w x2] h u.2 (some (.int u.1)) := by
  refine M1.of (own := RX0) (T := fun _ r => r = u) hK (by decide +kernel) rfl (by first | (simp only [lg_lenR, lg_lenI, lg_lenL, lg_len0]; decide) | decide) (fun x hx hnl hhf hl hw hret hnm hQ h0e => ⟨?_, rfl⟩)
  subst hw
  subst hl
  have hR : Rt x h u.2 (some (.int u.1)) ((some .boolean)) := ⟨h0e, hhf, hret, hQ⟩
  have hn : ∀ i, i < 3 → i < x.2.2.1.1.1 := fun i hi => by rw [hnl]; exact hi
  have e0 : lv_args 0 [vR x.2.2.2 x0, .int x1, vR x.2.2.2 x2] = [(0, vR x.2.2.2 x0), (1, .int x1), (2, vR x.2.2.2 x2)] := by simp only [lv_argsR, lv_argsI, lv_argsL, lv_args0]
  rw [e0]
  unfold mX0_store
  refine J.ckd fun hck => ?_
  refine j_iload_n (q := 1) hx (dc kX0_store_0 0 rfl) rfl 1 rfl rfl ?_
  refine j_if_lt (q := 4) (tgt := 22) hx (dc kX0_store_0 1 rfl) (by decide) Iff.rfl rfl ?_ ?_
  · refine j_iconst (q := 23) (v := (0 : Int32)) hx (dc kX0_store_0 12 rfl) (by decide) rfl ?_
    exact r_cW hx (Or.inl rfl) hR (dc kX0_store_0 13 rfl)
  · refine j_iload_n (q := 5) hx (dc kX0_store_0 2 rfl) rfl 1 rfl rfl ?_
    refine j_aload_n (q := 6) hx (dc kX0_store_0 3 rfl) rfl 0 rfl rfl ?_
    refine w_gR (q := 9) hx (dc kX0_store_0 4 rfl) ff_X0_1 lk_X0_17 rfl (fun v1 => ?_)
    refine j_alen (q := 10) hx (dc kX0_store_0 5 rfl) rfl (fun v2 => ?_)
    refine j_icmp_geS (q := 13) (tgt := 22) hx (dc kX0_store_0 6 rfl) (by decide) rfl ?_ ?_
    · refine j_iconst (q := 23) (v := (0 : Int32)) hx (dc kX0_store_0 12 rfl) (by decide) rfl ?_
      exact r_cW hx (Or.inl rfl) hR (dc kX0_store_0 13 rfl)
    · refine j_aload_n (q := 14) hx (dc kX0_store_0 7 rfl) rfl 0 rfl rfl ?_
      refine w_gR (q := 17) hx (dc kX0_store_0 8 rfl) ff_X0_1 lk_X0_17 rfl (fun v3 => ?_)
      refine j_iload_n (q := 18) hx (dc kX0_store_0 9 rfl) rfl 1 rfl rfl ?_
      refine j_ldR (t := 0) (q := 19) hx (dc kX0_store_0 10 rfl) rfl (by decide) rfl (fun v4 => ?_)
      refine j_ifnonnull (q := 22) (tgt := 24) hx (dc kX0_store_0 11 rfl) (by decide) rfl ?_ ?_
      · refine j_aload_n (q := 25) hx (dc kX0_store_0 14 rfl) rfl 0 rfl rfl ?_
        refine w_gR (q := 28) hx (dc kX0_store_0 15 rfl) ff_X0_1 lk_X0_17 rfl (fun v5 => ?_)
        refine j_iload_n (q := 29) hx (dc kX0_store_0 16 rfl) rfl 1 rfl rfl ?_
        refine j_ldR (t := 0) (q := 30) hx (dc kX0_store_0 17 rfl) rfl (by decide) rfl (fun v6 => ?_)
        refine j_aload_n (q := 31) hx (dc kX0_store_0 18 rfl) rfl 2 rfl rfl ?_
        refine w_cVVW (q := 34) (As := [vR x.2.2.2 x2]) (st := []) hx (dc kX0_store_0 19 rfl) cf5 (by decide) rfl (cI _ my_X5_copy lm_X0_31 (by decide)) vs_X5_copy rfl (fun u hu => sX5_copy _ _ _ _ _ _ hu) (fun e => ite_ne (by unfold mX5_copy at e; exact e)) (Nat.zero_le _) rfl (fun h8 => ?_)
        refine j_aload_n (q := 35) hx (dc kX0_store_0 20 rfl) rfl 0 rfl rfl ?_
        refine j_dup (q := 36) hx (dc kX0_store_0 21 rfl) (vR_cat _ _) rfl ?_
        refine w_gI (q := 39) hx (dc kX0_store_0 22 rfl) ff_X0_2 lk_X0_25 rfl (fun v9 => ?_)
        refine j_iconst (q := 40) (v := (1 : Int32)) hx (dc kX0_store_0 23 rfl) (by decide) rfl ?_
        refine j_iload_n (q := 41) hx (dc kX0_store_0 24 rfl) rfl 1 rfl rfl ?_
        refine j_ishl (q := 42) hx (dc kX0_store_0 25 rfl) rfl ?_
        refine j_ior (q := 43) hx (dc kX0_store_0 26 rfl) rfl ?_
        refine w_sI (q := 46) hx (dc kX0_store_0 27 rfl) ff_X0_2 rfl lk_X0_25 (Or.inl rfl) rfl (fun h10 => ?_)
        refine j_iconst (q := 47) (v := (1 : Int32)) hx (dc kX0_store_0 28 rfl) (by decide) rfl ?_
        exact r_cW hx (Or.inr rfl) hR (dc kX0_store_0 29 rfl)
      · refine j_iconst (q := 23) (v := (0 : Int32)) hx (dc kX0_store_0 12 rfl) (by decide) rfl ?_
        exact r_cW hx (Or.inl rfl) hR (dc kX0_store_0 13 rfl)

set_option maxHeartbeats 4000000 in
set_option maxRecDepth 100000 in
theorem sX11_has (l : Launch) (w : Wd) (x0 : Int32) (x1 : Int32) (h : Hp) (u : Int32) (hK : mX11_has x0 x1 = some u) : M1 l w mi_X11_has 1 [.int x0, .int x1] h h (some (.int u)) := by
  refine M1.of (own := RX11) (T := fun _ r => r = u) hK (by decide +kernel) rfl (by first | (simp only [lg_lenR, lg_lenI, lg_lenL, lg_len0]; decide) | decide) (fun x hx hnl hhf hl hw hret hnm hQ h0e => ⟨?_, rfl⟩)
  subst hw
  subst hl
  have hR : Rt x h h (some (.int u)) ((some .boolean)) := ⟨h0e, hhf, hret, hQ⟩
  have hn : ∀ i, i < 2 → i < x.2.2.1.1.1 := fun i hi => by rw [hnl]; exact hi
  have e0 : lv_args 0 [.int x0, .int x1] = [(0, .int x0), (1, .int x1)] := by simp only [lv_argsR, lv_argsI, lv_argsL, lv_args0]
  rw [e0]
  unfold mX11_has
  refine j_iload_n (q := 1) hx (dc kX11_has_0 0 rfl) rfl 0 rfl rfl ?_
  refine j_iload_n (q := 2) hx (dc kX11_has_0 1 rfl) rfl 1 rfl rfl ?_
  refine j_ishr (q := 3) hx (dc kX11_has_0 2 rfl) rfl ?_
  refine j_iconst (q := 4) (v := (1 : Int32)) hx (dc kX11_has_0 3 rfl) (by decide) rfl ?_
  refine j_iand (q := 5) hx (dc kX11_has_0 4 rfl) rfl ?_
  refine j_if_eq (q := 8) (tgt := 12) hx (dc kX11_has_0 5 rfl) (by decide) Iff.rfl rfl ?_ ?_
  · refine j_iconst (q := 13) (v := (0 : Int32)) hx (dc kX11_has_0 8 rfl) (by decide) rfl ?_
    exact r_cR hx (Or.inl rfl) hR (dc kX11_has_0 9 rfl)
  · refine j_iconst (q := 9) (v := (1 : Int32)) hx (dc kX11_has_0 6 rfl) (by decide) rfl ?_
    refine j_goto (q := 13) hx (dc kX11_has_0 7 rfl) (by decide) ?_
    exact r_cR hx (Or.inr rfl) hR (dc kX11_has_0 9 rfl)

set_option maxHeartbeats 4000000 in
set_option maxRecDepth 100000 in
theorem sX0_restore (l : Launch) (w : Wd) (x0 : Nat) (x1 : Int32) (x2 : Nat) (h : Hp) (u : (Int32 × Hp)) (hK : mX0_restore x0 x1 x2 h = some u) : M1 l w mi_X0_restore 4 [vR w x0, .int x1, vR w x2] h u.2 (some (.int u.1)) := by
  refine M1.of (own := RX0) (T := fun _ r => r = u) hK (by decide +kernel) rfl (by first | (simp only [lg_lenR, lg_lenI, lg_lenL, lg_len0]; decide) | decide) (fun x hx hnl hhf hl hw hret hnm hQ h0e => ⟨?_, rfl⟩)
  subst hw
  subst hl
  have hR : Rt x h u.2 (some (.int u.1)) ((some .boolean)) := ⟨h0e, hhf, hret, hQ⟩
  have hn : ∀ i, i < 3 → i < x.2.2.1.1.1 := fun i hi => by rw [hnl]; exact hi
  have e0 : lv_args 0 [vR x.2.2.2 x0, .int x1, vR x.2.2.2 x2] = [(0, vR x.2.2.2 x0), (1, .int x1), (2, vR x.2.2.2 x2)] := by simp only [lv_argsR, lv_argsI, lv_argsL, lv_args0]
  rw [e0]
  unfold mX0_restore
  refine J.ckd fun hck => ?_
  refine j_iload_n (q := 1) hx (dc kX0_restore_0 0 rfl) rfl 1 rfl rfl ?_
  refine j_if_lt (q := 4) (tgt := 33) hx (dc kX0_restore_0 1 rfl) (by decide) Iff.rfl rfl ?_ ?_
  · refine j_iconst (q := 34) (v := (0 : Int32)) hx (dc kX0_restore_0 17 rfl) (by decide) rfl ?_
    exact r_cW hx (Or.inl rfl) hR (dc kX0_restore_0 18 rfl)
  · refine j_iload_n (q := 5) hx (dc kX0_restore_0 2 rfl) rfl 1 rfl rfl ?_
    refine j_aload_n (q := 6) hx (dc kX0_restore_0 3 rfl) rfl 0 rfl rfl ?_
    refine w_gR (q := 9) hx (dc kX0_restore_0 4 rfl) ff_X0_1 lk_X0_17 rfl (fun v1 => ?_)
    refine j_alen (q := 10) hx (dc kX0_restore_0 5 rfl) rfl (fun v2 => ?_)
    refine j_icmp_geS (q := 13) (tgt := 33) hx (dc kX0_restore_0 6 rfl) (by decide) rfl ?_ ?_
    · refine j_iconst (q := 34) (v := (0 : Int32)) hx (dc kX0_restore_0 17 rfl) (by decide) rfl ?_
      exact r_cW hx (Or.inl rfl) hR (dc kX0_restore_0 18 rfl)
    · refine j_aload_n (q := 14) hx (dc kX0_restore_0 7 rfl) rfl 0 rfl rfl ?_
      refine w_gR (q := 17) hx (dc kX0_restore_0 8 rfl) ff_X0_1 lk_X0_17 rfl (fun v3 => ?_)
      refine j_iload_n (q := 18) hx (dc kX0_restore_0 9 rfl) rfl 1 rfl rfl ?_
      refine j_ldR (t := 0) (q := 19) hx (dc kX0_restore_0 10 rfl) rfl (by decide) rfl (fun v4 => ?_)
      refine j_ifnull (q := 22) (tgt := 33) hx (dc kX0_restore_0 11 rfl) (by decide) rfl ?_ ?_
      · refine j_iconst (q := 34) (v := (0 : Int32)) hx (dc kX0_restore_0 17 rfl) (by decide) rfl ?_
        exact r_cW hx (Or.inl rfl) hR (dc kX0_restore_0 18 rfl)
      · refine j_aload_n (q := 23) hx (dc kX0_restore_0 12 rfl) rfl 0 rfl rfl ?_
        refine w_gI (q := 26) hx (dc kX0_restore_0 13 rfl) ff_X0_2 lk_X0_25 rfl (fun v5 => ?_)
        refine j_iload_n (q := 27) hx (dc kX0_restore_0 14 rfl) rfl 1 rfl rfl ?_
        refine w_cSIR (q := 30) (As := [.int v5, .int x1]) (st := []) hx (dc kX0_restore_0 15 rfl) (cI _ my_X11_has lm_X0_41 (by decide)) st_X11_has rfl (fun u hu => sX11_has _ _ _ _ _ _ hu) (Nat.zero_le _) rfl (fun v6 => ?_)
        refine j_if_neS (q := 33) (tgt := 35) hx (dc kX0_restore_0 16 rfl) (by decide) rfl ?_ ?_
        · refine j_aload_n (q := 36) hx (dc kX0_restore_0 19 rfl) rfl 0 rfl rfl ?_
          refine j_aload_n (q := 37) hx (dc kX0_restore_0 20 rfl) rfl 2 rfl rfl ?_
          refine w_cVVW (q := 40) (As := [vR x.2.2.2 x2]) (st := []) hx (dc kX0_restore_0 21 rfl) cf0 (by decide) rfl (cI _ my_X0_note lm_X0_45 (by decide)) vs_X0_note rfl (fun u hu => sX0_note _ _ _ _ _ _ hu) (fun e => ite_ne (by unfold mX0_note at e; exact e)) (Nat.zero_le _) rfl (fun h9 => ?_)
          refine j_aload_n (q := 41) hx (dc kX0_restore_0 22 rfl) rfl 2 rfl rfl ?_
          refine j_aload_n (q := 42) hx (dc kX0_restore_0 23 rfl) rfl 0 rfl rfl ?_
          refine w_gR (q := 45) hx (dc kX0_restore_0 24 rfl) ff_X0_1 lk_X0_17 rfl (fun v10 => ?_)
          refine j_iload_n (q := 46) hx (dc kX0_restore_0 25 rfl) rfl 1 rfl rfl ?_
          refine j_ldR (t := 0) (q := 47) hx (dc kX0_restore_0 26 rfl) rfl (by decide) rfl (fun v11 => ?_)
          refine w_cVVW (q := 50) (As := [vR x.2.2.2 v11]) (st := []) hx (dc kX0_restore_0 27 rfl) cf5 (by decide) rfl (cI _ my_X5_copy lm_X0_31 (by decide)) vs_X5_copy rfl (fun u hu => sX5_copy _ _ _ _ _ _ hu) (fun e => ite_ne (by unfold mX5_copy at e; exact e)) (Nat.zero_le _) rfl (fun h13 => ?_)
          refine j_iconst (q := 51) (v := (1 : Int32)) hx (dc kX0_restore_0 28 rfl) (by decide) rfl ?_
          exact r_cW hx (Or.inr rfl) hR (dc kX0_restore_0 29 rfl)
        · refine j_iconst (q := 34) (v := (0 : Int32)) hx (dc kX0_restore_0 17 rfl) (by decide) rfl ?_
          exact r_cW hx (Or.inl rfl) hR (dc kX0_restore_0 18 rfl)

set_option maxHeartbeats 4000000 in
set_option maxRecDepth 100000 in
theorem sX10_init {x0 : Nat} (hvx0 : x0 ≠ 0) (l : Launch) (w : Wd) (h : Hp) (u : Hp) (hK : mX10_init x0 h = some u) : M1 l w mi_X10_init 1 [vR w x0] h u (none) := by
  refine M1.of (own := RX10) (T := fun _ r => r = u) hK (by decide +kernel) rfl (by first | (simp only [lg_lenR, lg_lenI, lg_lenL, lg_len0]; decide) | decide) (fun x hx hnl hhf hl hw hret hnm hQ h0e => ⟨?_, rfl⟩)
  subst hw
  subst hl
  have hR : Rt x h u (none) (none) := ⟨h0e, hhf, hret, hQ⟩
  have hn : ∀ i, i < 1 → i < x.2.2.1.1.1 := fun i hi => by rw [hnl]; exact hi
  have e0 : lv_args 0 [vR x.2.2.2 x0] = [(0, vR x.2.2.2 x0)] := by simp only [lv_argsR, lv_argsI, lv_argsL, lv_args0]
  rw [e0]
  unfold mX10_init
  refine j_aload_n (q := 1) hx (dc kX10_init_0 0 rfl) rfl 0 rfl rfl ?_
  refine j_obj (q := 4) hx (dc kX10_init_0 1 rfl) lo_X10_3 hvx0 (by decide) (Nat.zero_le _) rfl ?_
  refine j_aload_n (q := 5) hx (dc kX10_init_0 2 rfl) rfl 0 rfl rfl ?_
  refine j_iconst (q := 6) (v := (4 : Int32)) hx (dc kX10_init_0 3 rfl) (by decide) rfl ?_
  refine j_newarray51 (q := 8) hx (dc kX10_init_0 4 rfl) ac_J (by decide) (by decide) (by decide) rfl (fun v2 hvv2 h1 => ?_)
  refine w_sR (q := 11) hx (dc kX10_init_0 5 rfl) ff_X10_0 lk_X10_9 (Or.inr ⟨hnm, rfl, rfl, lt_X10_9⟩) rfl (fun h3 => ?_)
  exact r_vW hx hR (dc kX10_init_0 6 rfl)

set_option maxHeartbeats 4000000 in
set_option maxRecDepth 100000 in
theorem sX1_init {x0 : Nat} (hvx0 : x0 ≠ 0) (l : Launch) (w : Wd) (h : Hp) (u : Hp) (hK : mX1_init x0 h = some u) : M1 l w mi_X1_init 2 [vR w x0] h u (none) := by
  refine M1.of (own := RX1) (T := fun _ r => r = u) hK (by decide +kernel) rfl (by first | (simp only [lg_lenR, lg_lenI, lg_lenL, lg_len0]; decide) | decide) (fun x hx hnl hhf hl hw hret hnm hQ h0e => ⟨?_, rfl⟩)
  subst hw
  subst hl
  have hR : Rt x h u (none) (none) := ⟨h0e, hhf, hret, hQ⟩
  have hn : ∀ i, i < 2 → i < x.2.2.1.1.1 := fun i hi => by rw [hnl]; exact hi
  have e0 : lv_args 0 [vR x.2.2.2 x0] = [(0, vR x.2.2.2 x0)] := by simp only [lv_argsR, lv_argsI, lv_argsL, lv_args0]
  rw [e0]
  have hb116 : ∀ (x0 : Nat) (x1 : Int32) (h : Hp), J x 116 [(0, vR x.2.2.2 x0), (1, .int x1)] [] h (mX1_init_l116 x0 x1 h) (fun r => r = u) := by
    intro x0 x1 h
    have hB : ∀ (x1 : Int32) (h : Hp), J x 116 [(0, vR x.2.2.2 x0), (1, .int x1)] [] h (mX1_init_l116f x0 x1 h) (TLo (S := (Int32 × Hp)) x 116 (fun s => [(0, vR x.2.2.2 x0), (1, .int s.1)]) [] (fun s => s.2) (fun r => r = u)) := by
      intro x1 h
      unfold mX1_init_l116f
      refine j_iload_n (q := 117) hx (dc kX1_init_0 58 rfl) rfl 1 rfl rfl ?_
      refine j_aload_n (q := 118) hx (dc kX1_init_0 59 rfl) rfl 0 rfl rfl ?_
      refine w_gR (q := 121) hx (dc kX1_init_0 60 rfl) ff_X1_18 lk_X1_49 rfl (fun v44 => ?_)
      refine j_alen (q := 122) hx (dc kX1_init_0 61 rfl) rfl (fun v45 => ?_)
      refine j_icmp_geS (q := 125) (tgt := 144) hx (dc kX1_init_0 62 rfl) (by decide) rfl ?_ ?_
      · refine j_exit ?_
        exact r_vW hx hR (dc kX1_init_1 8 rfl)
      · refine j_aload_n (q := 126) hx (dc kX1_init_0 63 rfl) rfl 0 rfl rfl ?_
        refine w_gR (q := 129) hx (dc kX1_init_1 0 rfl) ff_X1_18 lk_X1_49 rfl (fun v46 => ?_)
        refine j_iload_n (q := 130) hx (dc kX1_init_1 1 rfl) rfl 1 rfl rfl ?_
        refine j_new (q := 133) hx (dc kX1_init_1 2 rfl) cf10 (by decide) nw_X1_42 rfl (fun v48 hvv48 h47 => ?_)
        refine j_dup (q := 134) hx (dc kX1_init_1 3 rfl) (vR_cat _ _) rfl ?_
        refine w_cIVW (q := 137) (As := []) (st := [vR x.2.2.2 v48, .int x1, vR x.2.2.2 v46]) hx (dc kX1_init_1 4 rfl) (cI _ my_X10_init lm_X1_44 (by decide)) is_X10_init rfl rfl (fun u hu => sX10_init hvv48 _ _ _ _ hu) hvv48 (sum_le (sum_R (sum_I (sum_R sum_nil))) (by decide)) rfl (fun h50 => ?_)
        refine w_stR (t := 1) (q := 138) hx (dc kX1_init_1 5 rfl) rfl (by decide) rfl cf10 (fun h51 => ?_)
        refine j_iinc (q := 141) (l2 := [(0, vR x.2.2.2 x0)]) hx (dc kX1_init_1 6 rfl) 1 rfl (v := (1 : Int32)) (by decide) (hn 1 (by decide)) [0] rfl ⟨⟨show (0 : Nat) ≠ 1 by decide, Or.inr (vR_cat _ _)⟩, trivial⟩ rfl ?_
        refine j_goto (q := 116) hx (dc kX1_init_1 7 rfl) (by decide) ?_
        exact j_back [1, 0] ((x1 + (1 : Int32)), h51) rfl rfl
    exact j_loop (S := (Int32 × Hp)) (lvf := fun s => [(0, vR x.2.2.2 x0), (1, .int s.1)]) (hpf := fun s => s.2) (f := (fun s : (Int32 × Hp) => mX1_init_l116f x0 s.1 s.2)) (fun s => hB s.1 s.2) (x1, h)
  unfold mX1_init
  refine j_aload_n (q := 1) hx (dc kX1_init_0 0 rfl) rfl 0 rfl rfl ?_
  refine j_obj (q := 4) hx (dc kX1_init_0 1 rfl) lo_X1_5 hvx0 (by decide) (Nat.zero_le _) rfl ?_
  refine j_aload_n (q := 5) hx (dc kX1_init_0 2 rfl) rfl 0 rfl rfl ?_
  refine j_bipush (q := 7) (v := (8 : Int32)) hx (dc kX1_init_0 3 rfl) (by decide) rfl ?_
  refine j_newarray50 (q := 9) hx (dc kX1_init_0 4 rfl) ac_I (by decide) (by decide) (by decide) rfl (fun v2 hvv2 h1 => ?_)
  refine w_sR (q := 12) hx (dc kX1_init_0 5 rfl) ff_X1_6 lk_X1_11 (Or.inr ⟨hnm, rfl, rfl, lt_X1_11⟩) rfl (fun h3 => ?_)
  refine j_aload_n (q := 13) hx (dc kX1_init_0 6 rfl) rfl 0 rfl rfl ?_
  refine j_bipush (q := 15) (v := (13 : Int32)) hx (dc kX1_init_0 7 rfl) (by decide) rfl ?_
  refine j_newarray50 (q := 17) hx (dc kX1_init_0 8 rfl) ac_I (by decide) (by decide) (by decide) rfl (fun v5 hvv5 h4 => ?_)
  refine w_sR (q := 20) hx (dc kX1_init_0 9 rfl) ff_X1_7 lk_X1_15 (Or.inr ⟨hnm, rfl, rfl, lt_X1_15⟩) rfl (fun h6 => ?_)
  refine j_aload_n (q := 21) hx (dc kX1_init_0 10 rfl) rfl 0 rfl rfl ?_
  refine j_iconst (q := 22) (v := (5 : Int32)) hx (dc kX1_init_0 11 rfl) (by decide) rfl ?_
  refine j_newarray50 (q := 24) hx (dc kX1_init_0 12 rfl) ac_I (by decide) (by decide) (by decide) rfl (fun v8 hvv8 h7 => ?_)
  refine w_sR (q := 27) hx (dc kX1_init_0 13 rfl) ff_X1_8 lk_X1_18 (Or.inr ⟨hnm, rfl, rfl, lt_X1_18⟩) rfl (fun h9 => ?_)
  refine j_aload_n (q := 28) hx (dc kX1_init_0 14 rfl) rfl 0 rfl rfl ?_
  refine j_bipush (q := 30) (v := (6 : Int32)) hx (dc kX1_init_0 15 rfl) (by decide) rfl ?_
  refine j_newarray50 (q := 32) hx (dc kX1_init_0 16 rfl) ac_I (by decide) (by decide) (by decide) rfl (fun v11 hvv11 h10 => ?_)
  refine w_sR (q := 35) hx (dc kX1_init_0 17 rfl) ff_X1_9 lk_X1_21 (Or.inr ⟨hnm, rfl, rfl, lt_X1_21⟩) rfl (fun h12 => ?_)
  refine j_aload_n (q := 36) hx (dc kX1_init_0 18 rfl) rfl 0 rfl rfl ?_
  refine j_iconst (q := 37) (v := (5 : Int32)) hx (dc kX1_init_0 19 rfl) (by decide) rfl ?_
  refine j_newarray50 (q := 39) hx (dc kX1_init_0 20 rfl) ac_I (by decide) (by decide) (by decide) rfl (fun v14 hvv14 h13 => ?_)
  refine w_sR (q := 42) hx (dc kX1_init_0 21 rfl) ff_X1_10 lk_X1_24 (Or.inr ⟨hnm, rfl, rfl, lt_X1_24⟩) rfl (fun h15 => ?_)
  refine j_aload_n (q := 43) hx (dc kX1_init_0 22 rfl) rfl 0 rfl rfl ?_
  refine j_iconst (q := 44) (v := (5 : Int32)) hx (dc kX1_init_0 23 rfl) (by decide) rfl ?_
  refine j_newarray50 (q := 46) hx (dc kX1_init_0 24 rfl) ac_I (by decide) (by decide) (by decide) rfl (fun v17 hvv17 h16 => ?_)
  refine w_sR (q := 49) hx (dc kX1_init_0 25 rfl) ff_X1_11 lk_X1_27 (Or.inr ⟨hnm, rfl, rfl, lt_X1_27⟩) rfl (fun h18 => ?_)
  refine j_aload_n (q := 50) hx (dc kX1_init_0 26 rfl) rfl 0 rfl rfl ?_
  refine j_sipush (q := 53) (v := (960 : Int32)) hx (dc kX1_init_0 27 rfl) (by decide) rfl ?_
  refine j_newarray50 (q := 55) hx (dc kX1_init_0 28 rfl) ac_I (by decide) (by decide) (by decide) rfl (fun v20 hvv20 h19 => ?_)
  refine w_sR (q := 58) hx (dc kX1_init_0 29 rfl) ff_X1_12 lk_X1_30 (Or.inr ⟨hnm, rfl, rfl, lt_X1_30⟩) rfl (fun h21 => ?_)
  refine j_aload_n (q := 59) hx (dc kX1_init_0 30 rfl) rfl 0 rfl rfl ?_
  refine j_bipush (q := 61) (v := (26 : Int32)) hx (dc kX1_init_0 31 rfl) (by decide) rfl ?_
  refine j_newarray50 (q := 63) hx (dc kX1_init_0 32 rfl) ac_I (by decide) (by decide) (by decide) rfl (fun v23 hvv23 h22 => ?_)
  refine w_sR (q := 66) hx (dc kX1_init_0 33 rfl) ff_X1_14 lk_X1_33 (Or.inr ⟨hnm, rfl, rfl, lt_X1_33⟩) rfl (fun h24 => ?_)
  refine j_aload_n (q := 67) hx (dc kX1_init_0 34 rfl) rfl 0 rfl rfl ?_
  refine j_bipush (q := 69) (v := (26 : Int32)) hx (dc kX1_init_0 35 rfl) (by decide) rfl ?_
  refine j_newarray50 (q := 71) hx (dc kX1_init_0 36 rfl) ac_I (by decide) (by decide) (by decide) rfl (fun v26 hvv26 h25 => ?_)
  refine w_sR (q := 74) hx (dc kX1_init_0 37 rfl) ff_X1_15 lk_X1_36 (Or.inr ⟨hnm, rfl, rfl, lt_X1_36⟩) rfl (fun h27 => ?_)
  refine j_aload_n (q := 75) hx (dc kX1_init_0 38 rfl) rfl 0 rfl rfl ?_
  refine j_sipush (q := 78) (v := (256 : Int32)) hx (dc kX1_init_0 39 rfl) (by decide) rfl ?_
  refine j_newarray50 (q := 80) hx (dc kX1_init_0 40 rfl) ac_I (by decide) (by decide) (by decide) rfl (fun v29 hvv29 h28 => ?_)
  refine w_sR (q := 83) hx (dc kX1_init_0 41 rfl) ff_X1_16 lk_X1_39 (Or.inr ⟨hnm, rfl, rfl, lt_X1_39⟩) rfl (fun h30 => ?_)
  refine j_aload_n (q := 84) hx (dc kX1_init_0 42 rfl) rfl 0 rfl rfl ?_
  refine j_new (q := 87) hx (dc kX1_init_0 43 rfl) cf10 (by decide) nw_X1_42 rfl (fun v32 hvv32 h31 => ?_)
  refine j_dup (q := 88) hx (dc kX1_init_0 44 rfl) (vR_cat _ _) rfl ?_
  refine w_cIVW (q := 91) (As := []) (st := [vR x.2.2.2 v32, vR x.2.2.2 x0]) hx (dc kX1_init_0 45 rfl) (cI _ my_X10_init lm_X1_44 (by decide)) is_X10_init rfl rfl (fun u hu => sX10_init hvv32 _ _ _ _ hu) hvv32 (sum_le (sum_R (sum_R sum_nil)) (by decide)) rfl (fun h34 => ?_)
  refine w_sR (q := 94) hx (dc kX1_init_0 46 rfl) ff_X1_17 lk_X1_45 (Or.inr ⟨hnm, rfl, rfl, lt_X1_45⟩) rfl (fun h35 => ?_)
  refine j_aload_n (q := 95) hx (dc kX1_init_0 47 rfl) rfl 0 rfl rfl ?_
  refine j_bipush (q := 97) (v := (31 : Int32)) hx (dc kX1_init_0 48 rfl) (by decide) rfl ?_
  refine j_anewarray70 (q := 100) hx (dc kX1_init_0 49 rfl) na_X1_42 (by decide) (by decide) (by decide) rfl (fun v37 hvv37 h36 => ?_)
  refine w_sR (q := 103) hx (dc kX1_init_0 50 rfl) ff_X1_18 lk_X1_49 (Or.inr ⟨hnm, rfl, rfl, lt_X1_49⟩) rfl (fun h38 => ?_)
  refine j_aload_n (q := 104) hx (dc kX1_init_0 51 rfl) rfl 0 rfl rfl ?_
  refine j_new (q := 107) hx (dc kX1_init_0 52 rfl) cf10 (by decide) nw_X1_42 rfl (fun v40 hvv40 h39 => ?_)
  refine j_dup (q := 108) hx (dc kX1_init_0 53 rfl) (vR_cat _ _) rfl ?_
  refine w_cIVW (q := 111) (As := []) (st := [vR x.2.2.2 v40, vR x.2.2.2 x0]) hx (dc kX1_init_0 54 rfl) (cI _ my_X10_init lm_X1_44 (by decide)) is_X10_init rfl rfl (fun u hu => sX10_init hvv40 _ _ _ _ hu) hvv40 (sum_le (sum_R (sum_R sum_nil)) (by decide)) rfl (fun h42 => ?_)
  refine w_sR (q := 114) hx (dc kX1_init_0 55 rfl) ff_X1_19 lk_X1_53 (Or.inr ⟨hnm, rfl, rfl, lt_X1_53⟩) rfl (fun h43 => ?_)
  refine j_iconst (q := 115) (v := (0 : Int32)) hx (dc kX1_init_0 56 rfl) (by decide) rfl ?_
  refine j_istore_n (q := 116) (i := 1) (l2 := [(0, vR x.2.2.2 x0)]) hx (dc kX1_init_0 57 rfl) rfl (hn 1 (by decide)) [0] rfl ⟨⟨show (0 : Nat) ≠ 1 by decide, Or.inr (vR_cat _ _)⟩, trivial⟩ rfl ?_
  exact j_sub [1, 0] rfl (hb116 x0 (0 : Int32) h43)

set_option maxHeartbeats 4000000 in
set_option maxRecDepth 100000 in
theorem sX11_wipe (l : Launch) (w : Wd) (x0 : Nat) (h : Hp) (u : Hp) (hK : mX11_wipe x0 h = some u) : M1 l w mi_X11_wipe 1 [vR w x0] h u (none) := by
  refine M1.of (own := RX11) (T := fun _ r => r = u) hK (by decide +kernel) rfl (by first | (simp only [lg_lenR, lg_lenI, lg_lenL, lg_len0]; decide) | decide) (fun x hx hnl hhf hl hw hret hnm hQ h0e => ⟨?_, rfl⟩)
  subst hw
  subst hl
  have hR : Rt x h u (none) (none) := ⟨h0e, hhf, hret, hQ⟩
  have hn : ∀ i, i < 2 → i < x.2.2.1.1.1 := fun i hi => by rw [hnl]; exact hi
  have e0 : lv_args 0 [vR x.2.2.2 x0] = [(0, vR x.2.2.2 x0)] := by simp only [lv_argsR, lv_argsI, lv_argsL, lv_args0]
  rw [e0]
  have hb2 : ∀ (x0 : Nat) (x1 : Int32) (h : Hp), J x 2 [(0, vR x.2.2.2 x0), (1, .int x1)] [] h (mX11_wipe_l2 x0 x1 h) (fun r => r = u) := by
    intro x0 x1 h
    have hB : ∀ (x1 : Int32) (h : Hp), J x 2 [(0, vR x.2.2.2 x0), (1, .int x1)] [] h (mX11_wipe_l2f x0 x1 h) (TLo (S := (Int32 × Hp)) x 2 (fun s => [(0, vR x.2.2.2 x0), (1, .int s.1)]) [] (fun s => s.2) (fun r => r = u)) := by
      intro x1 h
      unfold mX11_wipe_l2f
      refine j_iload_n (q := 3) hx (dc kX11_wipe_0 2 rfl) rfl 1 rfl rfl ?_
      refine j_aload_n (q := 4) hx (dc kX11_wipe_0 3 rfl) rfl 0 rfl rfl ?_
      refine j_alen (q := 5) hx (dc kX11_wipe_0 4 rfl) rfl (fun v1 => ?_)
      refine j_icmp_geS (q := 8) (tgt := 18) hx (dc kX11_wipe_0 5 rfl) (by decide) rfl ?_ ?_
      · refine j_exit ?_
        exact r_vW hx hR (dc kX11_wipe_0 12 rfl)
      · refine j_aload_n (q := 9) hx (dc kX11_wipe_0 6 rfl) rfl 0 rfl rfl ?_
        refine j_iload_n (q := 10) hx (dc kX11_wipe_0 7 rfl) rfl 1 rfl rfl ?_
        refine j_iconst (q := 11) (v := (0 : Int32)) hx (dc kX11_wipe_0 8 rfl) (by decide) rfl ?_
        refine w_stI (q := 12) hx (dc kX11_wipe_0 9 rfl) rfl (fun h2 => ?_)
        refine j_iinc (q := 15) (l2 := [(0, vR x.2.2.2 x0)]) hx (dc kX11_wipe_0 10 rfl) 1 rfl (v := (1 : Int32)) (by decide) (hn 1 (by decide)) [0] rfl ⟨⟨show (0 : Nat) ≠ 1 by decide, Or.inr (vR_cat _ _)⟩, trivial⟩ rfl ?_
        refine j_goto (q := 2) hx (dc kX11_wipe_0 11 rfl) (by decide) ?_
        exact j_back [1, 0] ((x1 + (1 : Int32)), h2) rfl rfl
    exact j_loop (S := (Int32 × Hp)) (lvf := fun s => [(0, vR x.2.2.2 x0), (1, .int s.1)]) (hpf := fun s => s.2) (f := (fun s : (Int32 × Hp) => mX11_wipe_l2f x0 s.1 s.2)) (fun s => hB s.1 s.2) (x1, h)
  unfold mX11_wipe
  refine j_iconst (q := 1) (v := (0 : Int32)) hx (dc kX11_wipe_0 0 rfl) (by decide) rfl ?_
  refine j_istore_n (q := 2) (i := 1) (l2 := [(0, vR x.2.2.2 x0)]) hx (dc kX11_wipe_0 1 rfl) rfl (hn 1 (by decide)) [0] rfl ⟨⟨show (0 : Nat) ≠ 1 by decide, Or.inr (vR_cat _ _)⟩, trivial⟩ rfl ?_
  exact j_sub [1, 0] rfl (hb2 x0 (0 : Int32) h)

set_option maxHeartbeats 4000000 in
set_option maxRecDepth 100000 in
theorem sX10_fill (l : Launch) (w : Wd) (x0 : Nat) (h : Hp) (u : Hp) (hK : mX10_fill x0 h = some u) : M1 l w mi_X10_fill 1 [vR w x0] h u (none) := by
  refine M1.of (own := RX10) (T := fun _ r => r = u) hK (by decide +kernel) rfl (by first | (simp only [lg_lenR, lg_lenI, lg_lenL, lg_len0]; decide) | decide) (fun x hx hnl hhf hl hw hret hnm hQ h0e => ⟨?_, rfl⟩)
  subst hw
  subst hl
  have hR : Rt x h u (none) (none) := ⟨h0e, hhf, hret, hQ⟩
  have hn : ∀ i, i < 2 → i < x.2.2.1.1.1 := fun i hi => by rw [hnl]; exact hi
  have e0 : lv_args 0 [vR x.2.2.2 x0] = [(0, vR x.2.2.2 x0)] := by simp only [lv_argsR, lv_argsI, lv_argsL, lv_args0]
  rw [e0]
  have hb2 : ∀ (x0 : Nat) (x1 : Int32) (h : Hp), J x 2 [(0, vR x.2.2.2 x0), (1, .int x1)] [] h (mX10_fill_l2 x0 x1 h) (fun r => r = u) := by
    intro x0 x1 h
    have hB : ∀ (x1 : Int32) (h : Hp), J x 2 [(0, vR x.2.2.2 x0), (1, .int x1)] [] h (mX10_fill_l2f x0 x1 h) (TLo (S := (Int32 × Hp)) x 2 (fun s => [(0, vR x.2.2.2 x0), (1, .int s.1)]) [] (fun s => s.2) (fun r => r = u)) := by
      intro x1 h
      unfold mX10_fill_l2f
      refine j_iload_n (q := 3) hx (dc kX10_fill_0 2 rfl) rfl 1 rfl rfl ?_
      refine j_aload_n (q := 4) hx (dc kX10_fill_0 3 rfl) rfl 0 rfl rfl ?_
      refine w_gR (q := 7) hx (dc kX10_fill_0 4 rfl) ff_X10_0 lk_X10_9 rfl (fun v1 => ?_)
      refine j_alen (q := 8) hx (dc kX10_fill_0 5 rfl) rfl (fun v2 => ?_)
      refine j_icmp_geS (q := 11) (tgt := 26) hx (dc kX10_fill_0 6 rfl) (by decide) rfl ?_ ?_
      · refine j_exit ?_
        exact r_vW hx hR (dc kX10_fill_0 14 rfl)
      · refine j_aload_n (q := 12) hx (dc kX10_fill_0 7 rfl) rfl 0 rfl rfl ?_
        refine w_gR (q := 15) hx (dc kX10_fill_0 8 rfl) ff_X10_0 lk_X10_9 rfl (fun v3 => ?_)
        refine j_iload_n (q := 16) hx (dc kX10_fill_0 9 rfl) rfl 1 rfl rfl ?_
        refine j_ldc2 (q := 19) hx kl_X10_18 (dc kX10_fill_0 10 rfl) rfl ?_
        refine w_stL (q := 20) hx (dc kX10_fill_0 11 rfl) rfl (fun h4 => ?_)
        refine j_iinc (q := 23) (l2 := [(0, vR x.2.2.2 x0)]) hx (dc kX10_fill_0 12 rfl) 1 rfl (v := (1 : Int32)) (by decide) (hn 1 (by decide)) [0] rfl ⟨⟨show (0 : Nat) ≠ 1 by decide, Or.inr (vR_cat _ _)⟩, trivial⟩ rfl ?_
        refine j_goto (q := 2) hx (dc kX10_fill_0 13 rfl) (by decide) ?_
        exact j_back [1, 0] ((x1 + (1 : Int32)), h4) rfl rfl
    exact j_loop (S := (Int32 × Hp)) (lvf := fun s => [(0, vR x.2.2.2 x0), (1, .int s.1)]) (hpf := fun s => s.2) (f := (fun s : (Int32 × Hp) => mX10_fill_l2f x0 s.1 s.2)) (fun s => hB s.1 s.2) (x1, h)
  unfold mX10_fill
  refine J.ckd fun hck => ?_
  refine j_iconst (q := 1) (v := (0 : Int32)) hx (dc kX10_fill_0 0 rfl) (by decide) rfl ?_
  refine j_istore_n (q := 2) (i := 1) (l2 := [(0, vR x.2.2.2 x0)]) hx (dc kX10_fill_0 1 rfl) rfl (hn 1 (by decide)) [0] rfl ⟨⟨show (0 : Nat) ≠ 1 by decide, Or.inr (vR_cat _ _)⟩, trivial⟩ rfl ?_
  exact j_sub [1, 0] rfl (hb2 x0 (0 : Int32) h)

set_option maxHeartbeats 4000000 in
set_option maxRecDepth 100000 in
theorem sX1_clear (l : Launch) (w : Wd) (x0 : Nat) (h : Hp) (u : Hp) (hK : mX1_clear x0 h = some u) : M1 l w mi_X1_clear 2 [vR w x0] h u (none) := by
  refine M1.of (own := RX1) (T := fun _ r => r = u) hK (by decide +kernel) rfl (by first | (simp only [lg_lenR, lg_lenI, lg_lenL, lg_len0]; decide) | decide) (fun x hx hnl hhf hl hw hret hnm hQ h0e => ⟨?_, rfl⟩)
  subst hw
  subst hl
  have hR : Rt x h u (none) (none) := ⟨h0e, hhf, hret, hQ⟩
  have hn : ∀ i, i < 1 → i < x.2.2.1.1.1 := fun i hi => by rw [hnl]; exact hi
  have e0 : lv_args 0 [vR x.2.2.2 x0] = [(0, vR x.2.2.2 x0)] := by simp only [lv_argsR, lv_argsI, lv_argsL, lv_args0]
  rw [e0]
  unfold mX1_clear
  refine J.ckd fun hck => ?_
  refine j_aload_n (q := 1) hx (dc kX1_clear_0 0 rfl) rfl 0 rfl rfl ?_
  refine j_iconst (q := 2) (v := (0 : Int32)) hx (dc kX1_clear_0 1 rfl) (by decide) rfl ?_
  refine w_sI (q := 5) hx (dc kX1_clear_0 2 rfl) ff_X1_0 rfl lk_X1_56 (Or.inl rfl) rfl (fun h1 => ?_)
  refine j_aload_n (q := 6) hx (dc kX1_clear_0 3 rfl) rfl 0 rfl rfl ?_
  refine j_iconst (q := 7) (v := (0 : Int32)) hx (dc kX1_clear_0 4 rfl) (by decide) rfl ?_
  refine w_sI (q := 10) hx (dc kX1_clear_0 5 rfl) ff_X1_1 rfl lk_X1_60 (Or.inl rfl) rfl (fun h2 => ?_)
  refine j_aload_n (q := 11) hx (dc kX1_clear_0 6 rfl) rfl 0 rfl rfl ?_
  refine j_iconst (q := 12) (v := (0 : Int32)) hx (dc kX1_clear_0 7 rfl) (by decide) rfl ?_
  refine w_sI (q := 15) hx (dc kX1_clear_0 8 rfl) ff_X1_2 rfl lk_X1_63 (Or.inl rfl) rfl (fun h3 => ?_)
  refine j_aload_n (q := 16) hx (dc kX1_clear_0 9 rfl) rfl 0 rfl rfl ?_
  refine j_iconst (q := 17) (v := (0 : Int32)) hx (dc kX1_clear_0 10 rfl) (by decide) rfl ?_
  refine w_sI (q := 20) hx (dc kX1_clear_0 11 rfl) ff_X1_3 rfl lk_X1_66 (Or.inl rfl) rfl (fun h4 => ?_)
  refine j_aload_n (q := 21) hx (dc kX1_clear_0 12 rfl) rfl 0 rfl rfl ?_
  refine j_iconst (q := 22) (v := (0 : Int32)) hx (dc kX1_clear_0 13 rfl) (by decide) rfl ?_
  refine w_sI (q := 25) hx (dc kX1_clear_0 14 rfl) ff_X1_4 rfl lk_X1_69 (Or.inl rfl) rfl (fun h5 => ?_)
  refine j_aload_n (q := 26) hx (dc kX1_clear_0 15 rfl) rfl 0 rfl rfl ?_
  refine j_iconst (q := 27) (v := (0 : Int32)) hx (dc kX1_clear_0 16 rfl) (by decide) rfl ?_
  refine w_sI (q := 30) hx (dc kX1_clear_0 17 rfl) ff_X1_5 rfl lk_X1_72 (Or.inl rfl) rfl (fun h6 => ?_)
  refine j_aload_n (q := 31) hx (dc kX1_clear_0 18 rfl) rfl 0 rfl rfl ?_
  refine j_iconst (q := 32) (v := (0 : Int32)) hx (dc kX1_clear_0 19 rfl) (by decide) rfl ?_
  refine w_sI (q := 35) hx (dc kX1_clear_0 20 rfl) ff_X1_13 rfl lk_X1_75 (Or.inl rfl) rfl (fun h7 => ?_)
  refine j_aload_n (q := 36) hx (dc kX1_clear_0 21 rfl) rfl 0 rfl rfl ?_
  refine w_gR (q := 39) hx (dc kX1_clear_0 22 rfl) ff_X1_8 lk_X1_18 rfl (fun v8 => ?_)
  refine w_cSVW (q := 42) (As := [vR x.2.2.2 v8]) (st := []) hx (dc kX1_clear_0 23 rfl) (cI _ my_X11_wipe lm_X1_78 (by decide)) st_X11_wipe rfl (fun u hu => sX11_wipe _ _ _ _ _ hu) (Nat.zero_le _) rfl (fun h10 => ?_)
  refine j_aload_n (q := 43) hx (dc kX1_clear_0 24 rfl) rfl 0 rfl rfl ?_
  refine w_gR (q := 46) hx (dc kX1_clear_0 25 rfl) ff_X1_10 lk_X1_24 rfl (fun v11 => ?_)
  refine w_cSVW (q := 49) (As := [vR x.2.2.2 v11]) (st := []) hx (dc kX1_clear_0 26 rfl) (cI _ my_X11_wipe lm_X1_78 (by decide)) st_X11_wipe rfl (fun u hu => sX11_wipe _ _ _ _ _ hu) (Nat.zero_le _) rfl (fun h13 => ?_)
  refine j_aload_n (q := 50) hx (dc kX1_clear_0 27 rfl) rfl 0 rfl rfl ?_
  refine w_gR (q := 53) hx (dc kX1_clear_0 28 rfl) ff_X1_14 lk_X1_33 rfl (fun v14 => ?_)
  refine w_cSVW (q := 56) (As := [vR x.2.2.2 v14]) (st := []) hx (dc kX1_clear_0 29 rfl) (cI _ my_X11_wipe lm_X1_78 (by decide)) st_X11_wipe rfl (fun u hu => sX11_wipe _ _ _ _ _ hu) (Nat.zero_le _) rfl (fun h16 => ?_)
  refine j_aload_n (q := 57) hx (dc kX1_clear_0 30 rfl) rfl 0 rfl rfl ?_
  refine w_gR (q := 60) hx (dc kX1_clear_0 31 rfl) ff_X1_15 lk_X1_36 rfl (fun v17 => ?_)
  refine w_cSVW (q := 63) (As := [vR x.2.2.2 v17]) (st := []) hx (dc kX1_clear_0 32 rfl) (cI _ my_X11_wipe lm_X1_78 (by decide)) st_X11_wipe rfl (fun u hu => sX11_wipe _ _ _ _ _ hu) (Nat.zero_le _) rfl (fun h19 => ?_)
  refine j_aload_n (q := 64) hx (dc kX1_clear_0 33 rfl) rfl 0 rfl rfl ?_
  refine w_gR (q := 67) hx (dc kX1_clear_0 34 rfl) ff_X1_17 lk_X1_45 rfl (fun v20 => ?_)
  refine w_cVVW (q := 70) (As := []) (st := []) hx (dc kX1_clear_0 35 rfl) cf10 (by decide) rfl (cI _ my_X10_fill lm_X1_82 (by decide)) vs_X10_fill rfl (fun u hu => sX10_fill _ _ _ _ _ hu) (fun e => ite_ne (by unfold mX10_fill at e; exact e)) (Nat.zero_le _) rfl (fun h22 => ?_)
  exact r_vW hx hR (dc kX1_clear_0 36 rfl)

set_option maxHeartbeats 4000000 in
set_option maxRecDepth 100000 in
theorem sX10_soIn (l : Launch) (w : Wd) (x0 : Int32) (x1 : Int32) (h : Hp) (u : Int64) (hK : mX10_soIn x0 x1 h = some u) : M1 l w mi_X10_soIn 1 [.int x0, .int x1] h h (some (.long u)) := by
  refine M1.of (own := RX10) (T := fun _ r => r = u) hK (by decide +kernel) rfl (by first | (simp only [lg_lenR, lg_lenI, lg_lenL, lg_len0]; decide) | decide) (fun x hx hnl hhf hl hw hret hnm hQ h0e => ⟨?_, rfl⟩)
  subst hw
  subst hl
  have hR : Rt x h h (some (.long u)) ((some .long)) := ⟨h0e, hhf, hret, hQ⟩
  have hn : ∀ i, i < 2 → i < x.2.2.1.1.1 := fun i hi => by rw [hnl]; exact hi
  have e0 : lv_args 0 [.int x0, .int x1] = [(0, .int x0), (1, .int x1)] := by simp only [lv_argsR, lv_argsI, lv_argsL, lv_args0]
  rw [e0]
  have hb18 : ∀ (x0 : Int32) (x1 : Int32), J x 18 [(0, .int x0), (1, .int x1)] [] h (mX10_soIn_b18 x0 x1 h) (fun r => r = u) := by
    intro x0 x1
    unfold mX10_soIn_b18
    refine j_iload_n (q := 19) hx (dc kX10_soIn_0 10 rfl) rfl 1 rfl rfl ?_
    refine j_iload_n (q := 20) hx (dc kX10_soIn_0 11 rfl) rfl 0 rfl rfl ?_
    refine j_gs (a := 2) (q := 23) hx (dc kX10_soIn_0 12 rfl) gs_X10_15 gz_2 rfl ?_
    refine j_alen (q := 24) hx (dc kX10_soIn_0 13 rfl) rfl (fun v1 => ?_)
    refine j_isub (q := 25) hx (dc kX10_soIn_0 14 rfl) rfl ?_
    refine j_ishr (q := 26) hx (dc kX10_soIn_0 15 rfl) rfl ?_
    refine j_iconst (q := 27) (v := (1 : Int32)) hx (dc kX10_soIn_0 16 rfl) (by decide) rfl ?_
    refine j_iand (q := 28) hx (dc kX10_soIn_0 17 rfl) rfl ?_
    refine j_if_eq (q := 31) (tgt := 37) hx (dc kX10_soIn_0 18 rfl) (by decide) Iff.rfl rfl ?_ ?_
    · refine j_lconst (q := 38) (v := (0 : Int64)) hx (dc kX10_soIn_0 21 rfl) (by decide) rfl ?_
      exact r_lR hx hR (dc kX10_soIn_0 22 rfl)
    · refine j_ldc2 (q := 34) hx kl_X10_18 (dc kX10_soIn_0 19 rfl) rfl ?_
      refine j_goto (q := 38) hx (dc kX10_soIn_0 20 rfl) (by decide) ?_
      exact r_lR hx hR (dc kX10_soIn_0 22 rfl)
  unfold mX10_soIn
  refine j_iload_n (q := 1) hx (dc kX10_soIn_0 0 rfl) rfl 0 rfl rfl ?_
  refine j_if_lt (q := 4) (tgt := 18) hx (dc kX10_soIn_0 1 rfl) (by decide) Iff.rfl rfl ?_ ?_
  · exact hb18 x0 x1
  · refine j_iload_n (q := 5) hx (dc kX10_soIn_0 2 rfl) rfl 0 rfl rfl ?_
    refine j_gs (a := 2) (q := 8) hx (dc kX10_soIn_0 3 rfl) gs_X10_15 gz_2 rfl ?_
    refine j_alen (q := 9) hx (dc kX10_soIn_0 4 rfl) rfl (fun v2 => ?_)
    refine j_icmp_geS (q := 12) (tgt := 18) hx (dc kX10_soIn_0 5 rfl) (by decide) rfl ?_ ?_
    · exact hb18 x0 x1
    · refine j_gs (a := 2) (q := 15) hx (dc kX10_soIn_0 6 rfl) gs_X10_15 gz_2 rfl ?_
      refine j_iload_n (q := 16) hx (dc kX10_soIn_0 7 rfl) rfl 0 rfl rfl ?_
      refine j_ldL (q := 17) hx (dc kX10_soIn_0 8 rfl) rfl (fun v3 => ?_)
      exact r_lR hx hR (dc kX10_soIn_0 9 rfl)

set_option maxHeartbeats 4000000 in
set_option maxRecDepth 100000 in
theorem sX10_agree (l : Launch) (w : Wd) (x0 : Nat) (x1 : Int32) (x2 : Int32) (h : Hp) (u : Hp) (hK : mX10_agree x0 x1 x2 h = some u) : M1 l w mi_X10_agree 2 [vR w x0, .int x1, .int x2] h u (none) := by
  refine M1.of (own := RX10) (T := fun _ r => r = u) hK (by decide +kernel) rfl (by first | (simp only [lg_lenR, lg_lenI, lg_lenL, lg_len0]; decide) | decide) (fun x hx hnl hhf hl hw hret hnm hQ h0e => ⟨?_, rfl⟩)
  subst hw
  subst hl
  have hR : Rt x h u (none) (none) := ⟨h0e, hhf, hret, hQ⟩
  have hn : ∀ i, i < 5 → i < x.2.2.1.1.1 := fun i hi => by rw [hnl]; exact hi
  have e0 : lv_args 0 [vR x.2.2.2 x0, .int x1, .int x2] = [(0, vR x.2.2.2 x0), (1, .int x1), (2, .int x2)] := by simp only [lv_argsR, lv_argsI, lv_argsL, lv_args0]
  rw [e0]
  have hb2 : ∀ (x0 : Nat) (x1 : Int32) (x2 : Int32) (x3 : Int32) (h : Hp), J x 2 [(0, vR x.2.2.2 x0), (1, .int x1), (2, .int x2), (3, .int x3)] [] h (mX10_agree_l2 x0 x1 x2 x3 h) (fun r => r = u) := by
    intro x0 x1 x2 x3 h
    have hB : ∀ (x3 : Int32) (h : Hp), J x 2 [(0, vR x.2.2.2 x0), (1, .int x1), (2, .int x2), (3, .int x3)] [] h (mX10_agree_l2f x0 x1 x2 x3 h) (TLo (S := (Int32 × Hp)) x 2 (fun s => [(0, vR x.2.2.2 x0), (1, .int x1), (2, .int x2), (3, .int s.1)]) [] (fun s => s.2) (fun r => r = u)) := by
      intro x3 h
      have hb72 : ∀ (x0 : Nat) (x1 : Int32) (x2 : Int32) (x3 : Int32) (h : Hp), J x 72 [(0, vR x.2.2.2 x0), (1, .int x1), (2, .int x2), (3, .int x3)] [] h (mX10_agree_b72 x0 x1 x2 x3 h) (TLo (S := (Int32 × Hp)) x 2 (fun s => [(0, vR x.2.2.2 x0), (1, .int x1), (2, .int x2), (3, .int s.1)]) [] (fun s => s.2) (fun r => r = u)) := by
        intro x0 x1 x2 x3 h
        unfold mX10_agree_b72
        refine j_iinc (q := 75) (l2 := [(0, vR x.2.2.2 x0), (1, .int x1), (2, .int x2)]) hx (dc kX10_agree_0 38 rfl) 3 rfl (v := (1 : Int32)) (by decide) (hn 3 (by decide)) [0, 1, 2] rfl ⟨⟨show (0 : Nat) ≠ 3 by decide, Or.inl (show (0 : Nat) + 1 ≠ 3 by decide)⟩, ⟨⟨show (1 : Nat) ≠ 3 by decide, Or.inl (show (1 : Nat) + 1 ≠ 3 by decide)⟩, ⟨⟨show (2 : Nat) ≠ 3 by decide, Or.inr rfl⟩, trivial⟩⟩⟩ rfl ?_
        refine j_goto (q := 2) hx (dc kX10_agree_0 39 rfl) (by decide) ?_
        exact j_back [1, 2, 3, 0] ((x3 + (1 : Int32)), h) rfl rfl
      have hb11 : ∀ (x0 : Nat) (x1 : Int32) (x2 : Int32) (x3 : Int32) (x4 : Int32) (h : Hp), J x 11 [(0, vR x.2.2.2 x0), (1, .int x1), (2, .int x2), (3, .int x3), (4, .int x4)] [] h (mX10_agree_l11 x0 x1 x2 x3 x4 h) (TLo (S := (Int32 × Hp)) x 2 (fun s => [(0, vR x.2.2.2 x0), (1, .int x1), (2, .int x2), (3, .int s.1)]) [] (fun s => s.2) (fun r => r = u)) := by
        intro x0 x1 x2 x3 x4 h
        have hB : ∀ (x4 : Int32) (h : Hp), J x 11 [(0, vR x.2.2.2 x0), (1, .int x1), (2, .int x2), (3, .int x3), (4, .int x4)] [] h (mX10_agree_l11f x0 x1 x2 x3 x4 h) (TLo (S := (Int32 × Hp)) x 11 (fun s => [(0, vR x.2.2.2 x0), (1, .int x1), (2, .int x2), (3, .int x3), (4, .int s.1)]) [] (fun s => s.2) (TLo (S := (Int32 × Hp)) x 2 (fun s => [(0, vR x.2.2.2 x0), (1, .int x1), (2, .int x2), (3, .int s.1)]) [] (fun s => s.2) (fun r => r = u))) := by
          intro x4 h
          have hb64 : ∀ (x0 : Nat) (x1 : Int32) (x2 : Int32) (x3 : Int32) (x4 : Int32) (t0 : Nat) (t1 : Int32) (t2 : Int64) (t3 : Int64) (h : Hp), J x 64 [(0, vR x.2.2.2 x0), (1, .int x1), (2, .int x2), (3, .int x3), (4, .int x4)] [.long t3, .long t2, .int t1, vR x.2.2.2 t0] h (mX10_agree_b64 x0 x1 x2 x3 x4 t0 t1 t2 t3 h) (TLo (S := (Int32 × Hp)) x 11 (fun s => [(0, vR x.2.2.2 x0), (1, .int x1), (2, .int x2), (3, .int x3), (4, .int s.1)]) [] (fun s => s.2) (TLo (S := (Int32 × Hp)) x 2 (fun s => [(0, vR x.2.2.2 x0), (1, .int x1), (2, .int x2), (3, .int s.1)]) [] (fun s => s.2) (fun r => r = u))) := by
            intro x0 x1 x2 x3 x4 t0 t1 t2 t3 h
            unfold mX10_agree_b64
            refine j_land (q := 65) hx (dc kX10_agree_0 34 rfl) rfl ?_
            refine w_stL (q := 66) hx (dc kX10_agree_0 35 rfl) rfl (fun h11 => ?_)
            refine j_iinc (q := 69) (l2 := [(0, vR x.2.2.2 x0), (1, .int x1), (2, .int x2), (3, .int x3)]) hx (dc kX10_agree_0 36 rfl) 4 rfl (v := (1 : Int32)) (by decide) (hn 4 (by decide)) [0, 1, 2, 3] rfl ⟨⟨show (0 : Nat) ≠ 4 by decide, Or.inl (show (0 : Nat) + 1 ≠ 4 by decide)⟩, ⟨⟨show (1 : Nat) ≠ 4 by decide, Or.inl (show (1 : Nat) + 1 ≠ 4 by decide)⟩, ⟨⟨show (2 : Nat) ≠ 4 by decide, Or.inl (show (2 : Nat) + 1 ≠ 4 by decide)⟩, ⟨⟨show (3 : Nat) ≠ 4 by decide, Or.inr rfl⟩, trivial⟩⟩⟩⟩ rfl ?_
            refine j_goto (q := 11) hx (dc kX10_agree_0 37 rfl) (by decide) ?_
            exact j_back [1, 2, 3, 4, 0] ((x4 + (1 : Int32)), h11) rfl rfl
          unfold mX10_agree_l11f
          refine j_iload (q := 13) hx (dc kX10_agree_0 7 rfl) 4 rfl rfl ?_
          refine j_aload_n (q := 14) hx (dc kX10_agree_0 8 rfl) rfl 0 rfl rfl ?_
          refine w_gR (q := 17) hx (dc kX10_agree_0 9 rfl) ff_X10_0 lk_X10_9 rfl (fun v1 => ?_)
          refine j_alen (q := 18) hx (dc kX10_agree_0 10 rfl) rfl (fun v2 => ?_)
          refine j_icmp_geS (q := 21) (tgt := 72) hx (dc kX10_agree_0 11 rfl) (by decide) rfl ?_ ?_
          · refine j_exit ?_
            exact j_sub [0, 1, 2, 3] rfl (hb72 x0 x1 x2 x3 h)
          · refine j_iload_n (q := 22) hx (dc kX10_agree_0 12 rfl) rfl 1 rfl rfl ?_
            refine j_iload_n (q := 23) hx (dc kX10_agree_0 13 rfl) rfl 3 rfl rfl ?_
            refine w_cSIR (q := 26) (As := [.int x1, .int x3]) (st := []) hx (dc kX10_agree_0 14 rfl) (cI _ my_X11_has lm_X10_20 (by decide)) st_X11_has rfl (fun u hu => sX11_has _ _ _ _ _ _ hu) (Nat.zero_le _) rfl (fun v3 => ?_)
            refine j_if_eq (q := 29) (tgt := 72) hx (dc kX10_agree_0 15 rfl) (by decide) Iff.rfl rfl ?_ ?_
            · refine j_exit ?_
              exact j_sub [0, 1, 2, 3] rfl (hb72 x0 x1 x2 x3 h)
            · refine j_aload_n (q := 30) hx (dc kX10_agree_0 16 rfl) rfl 0 rfl rfl ?_
              refine w_gR (q := 33) hx (dc kX10_agree_0 17 rfl) ff_X10_0 lk_X10_9 rfl (fun v5 => ?_)
              refine j_iload (q := 35) hx (dc kX10_agree_0 18 rfl) 4 rfl rfl ?_
              refine j_dup2_11 (q := 36) hx (dc kX10_agree_0 19 rfl) rfl (vR_cat _ _) rfl ?_
              refine j_ldL (q := 37) hx (dc kX10_agree_0 20 rfl) rfl (fun v6 => ?_)
              refine j_iload_n (q := 38) hx (dc kX10_agree_0 21 rfl) rfl 2 rfl rfl ?_
              refine j_iload_n (q := 39) hx (dc kX10_agree_0 22 rfl) rfl 3 rfl rfl ?_
              refine w_cSIR (q := 42) (As := [.int x2, .int x3]) (st := [.long v6, .int x4, vR x.2.2.2 v5]) hx (dc kX10_agree_0 23 rfl) (cI _ my_X11_has lm_X10_20 (by decide)) st_X11_has rfl (fun u hu => sX11_has _ _ _ _ _ _ hu) (sum_le (sum_J (sum_I (sum_R sum_nil))) (by decide)) rfl (fun v7 => ?_)
              refine j_if_eq (q := 45) (tgt := 54) hx (dc kX10_agree_0 24 rfl) (by decide) Iff.rfl rfl ?_ ?_
              · refine j_iload_n (q := 55) hx (dc kX10_agree_0 29 rfl) rfl 3 rfl rfl ?_
                refine j_iload (q := 57) hx (dc kX10_agree_0 30 rfl) 4 rfl rfl ?_
                refine w_cSJR (q := 60) (As := [.int x3, .int x4]) (st := [.long v6, .int x4, vR x.2.2.2 v5]) hx (dc kX10_agree_0 31 rfl) (cI _ my_X10_soIn lm_X10_24 (by decide)) st_X10_soIn rfl (fun u hu => sX10_soIn _ _ _ _ _ _ hu) (sum_le (sum_J (sum_I (sum_R sum_nil))) (by decide)) rfl (fun v9 => ?_)
                refine j_ldc2 (q := 63) hx kl_X10_18 (dc kX10_agree_0 32 rfl) rfl ?_
                refine j_lxor (q := 64) hx (dc kX10_agree_0 33 rfl) rfl ?_
                exact hb64 x0 x1 x2 x3 x4 v5 x4 v6 (v9 ^^^ (-1 : Int64)) h
              · refine j_iload_n (q := 46) hx (dc kX10_agree_0 25 rfl) rfl 3 rfl rfl ?_
                refine j_iload (q := 48) hx (dc kX10_agree_0 26 rfl) 4 rfl rfl ?_
                refine w_cSJR (q := 51) (As := [.int x3, .int x4]) (st := [.long v6, .int x4, vR x.2.2.2 v5]) hx (dc kX10_agree_0 27 rfl) (cI _ my_X10_soIn lm_X10_24 (by decide)) st_X10_soIn rfl (fun u hu => sX10_soIn _ _ _ _ _ _ hu) (sum_le (sum_J (sum_I (sum_R sum_nil))) (by decide)) rfl (fun v12 => ?_)
                refine j_goto (q := 64) hx (dc kX10_agree_0 28 rfl) (by decide) ?_
                exact hb64 x0 x1 x2 x3 x4 v5 x4 v6 v12 h
        exact j_loop (S := (Int32 × Hp)) (lvf := fun s => [(0, vR x.2.2.2 x0), (1, .int x1), (2, .int x2), (3, .int x3), (4, .int s.1)]) (hpf := fun s => s.2) (f := (fun s : (Int32 × Hp) => mX10_agree_l11f x0 x1 x2 x3 s.1 s.2)) (fun s => hB s.1 s.2) (x4, h)
      unfold mX10_agree_l2f
      refine j_iload_n (q := 3) hx (dc kX10_agree_0 2 rfl) rfl 3 rfl rfl ?_
      refine j_bipush (q := 5) (v := (8 : Int32)) hx (dc kX10_agree_0 3 rfl) (by decide) rfl ?_
      refine j_icmp_geS (q := 8) (tgt := 78) hx (dc kX10_agree_0 4 rfl) (by decide) rfl ?_ ?_
      · refine j_exit ?_
        exact r_vW hx hR (dc kX10_agree_0 40 rfl)
      · refine j_iconst (q := 9) (v := (0 : Int32)) hx (dc kX10_agree_0 5 rfl) (by decide) rfl ?_
        refine j_istore (q := 11) (i := 4) (l2 := [(0, vR x.2.2.2 x0), (1, .int x1), (2, .int x2), (3, .int x3)]) hx (dc kX10_agree_0 6 rfl) (hn 4 (by decide)) [0, 1, 2, 3] rfl ⟨⟨show (0 : Nat) ≠ 4 by decide, Or.inl (show (0 : Nat) + 1 ≠ 4 by decide)⟩, ⟨⟨show (1 : Nat) ≠ 4 by decide, Or.inl (show (1 : Nat) + 1 ≠ 4 by decide)⟩, ⟨⟨show (2 : Nat) ≠ 4 by decide, Or.inl (show (2 : Nat) + 1 ≠ 4 by decide)⟩, ⟨⟨show (3 : Nat) ≠ 4 by decide, Or.inr rfl⟩, trivial⟩⟩⟩⟩ rfl ?_
        exact j_sub [1, 2, 3, 4, 0] rfl (hb11 x0 x1 x2 x3 (0 : Int32) h)
    exact j_loop (S := (Int32 × Hp)) (lvf := fun s => [(0, vR x.2.2.2 x0), (1, .int x1), (2, .int x2), (3, .int s.1)]) (hpf := fun s => s.2) (f := (fun s : (Int32 × Hp) => mX10_agree_l2f x0 x1 x2 s.1 s.2)) (fun s => hB s.1 s.2) (x3, h)
  unfold mX10_agree
  refine J.ckd fun hck => ?_
  refine j_iconst (q := 1) (v := (0 : Int32)) hx (dc kX10_agree_0 0 rfl) (by decide) rfl ?_
  refine j_istore_n (q := 2) (i := 3) (l2 := [(0, vR x.2.2.2 x0), (1, .int x1), (2, .int x2)]) hx (dc kX10_agree_0 1 rfl) rfl (hn 3 (by decide)) [0, 1, 2] rfl ⟨⟨show (0 : Nat) ≠ 3 by decide, Or.inl (show (0 : Nat) + 1 ≠ 3 by decide)⟩, ⟨⟨show (1 : Nat) ≠ 3 by decide, Or.inl (show (1 : Nat) + 1 ≠ 3 by decide)⟩, ⟨⟨show (2 : Nat) ≠ 3 by decide, Or.inr rfl⟩, trivial⟩⟩⟩ rfl ?_
  exact j_sub [1, 2, 3, 0] rfl (hb2 x0 x1 x2 (0 : Int32) h)

set_option maxHeartbeats 4000000 in
set_option maxRecDepth 100000 in
theorem sX10_keepFirst (l : Launch) (w : Wd) (x0 : Nat) (x1 : Int32) (h : Hp) (u : Hp) (hK : mX10_keepFirst x0 x1 h = some u) : M1 l w mi_X10_keepFirst 3 [vR w x0, .int x1] h u (none) := by
  refine M1.of (own := RX10) (T := fun _ r => r = u) hK (by decide +kernel) rfl (by first | (simp only [lg_lenR, lg_lenI, lg_lenL, lg_len0]; decide) | decide) (fun x hx hnl hhf hl hw hret hnm hQ h0e => ⟨?_, rfl⟩)
  subst hw
  subst hl
  have hR : Rt x h u (none) (none) := ⟨h0e, hhf, hret, hQ⟩
  have hn : ∀ i, i < 2 → i < x.2.2.1.1.1 := fun i hi => by rw [hnl]; exact hi
  have e0 : lv_args 0 [vR x.2.2.2 x0, .int x1] = [(0, vR x.2.2.2 x0), (1, .int x1)] := by simp only [lv_argsR, lv_argsI, lv_argsL, lv_args0]
  rw [e0]
  unfold mX10_keepFirst
  refine J.ckd fun hck => ?_
  refine j_aload_n (q := 1) hx (dc kX10_keepFirst_0 0 rfl) rfl 0 rfl rfl ?_
  refine j_iconst (q := 2) (v := (-1 : Int32)) hx (dc kX10_keepFirst_0 1 rfl) (by decide) rfl ?_
  refine j_iload_n (q := 3) hx (dc kX10_keepFirst_0 2 rfl) rfl 1 rfl rfl ?_
  refine j_ishl (q := 4) hx (dc kX10_keepFirst_0 3 rfl) rfl ?_
  refine j_iconst (q := 5) (v := (0 : Int32)) hx (dc kX10_keepFirst_0 4 rfl) (by decide) rfl ?_
  refine w_cVVW (q := 8) (As := [.int ((-1 : Int32) <<< (x1 &&& 31)), .int (0 : Int32)]) (st := []) hx (dc kX10_keepFirst_0 5 rfl) cf10 (by decide) rfl (cI _ my_X10_agree lm_X10_28 (by decide)) vs_X10_agree rfl (fun u hu => sX10_agree _ _ _ _ _ _ _ hu) (fun e => ite_ne (by unfold mX10_agree at e; exact e)) (Nat.zero_le _) rfl (fun h2 => ?_)
  exact r_vW hx hR (dc kX10_keepFirst_0 6 rfl)

set_option maxHeartbeats 4000000 in
set_option maxRecDepth 100000 in
theorem sX11_at (l : Launch) (w : Wd) (x0 : Nat) (x1 : Int32) (h : Hp) (u : Int32) (hK : mX11_at x0 x1 h = some u) : M1 l w mi_X11_at 1 [vR w x0, .int x1] h h (some (.int u)) := by
  refine M1.of (own := RX11) (T := fun _ r => r = u) hK (by decide +kernel) rfl (by first | (simp only [lg_lenR, lg_lenI, lg_lenL, lg_len0]; decide) | decide) (fun x hx hnl hhf hl hw hret hnm hQ h0e => ⟨?_, rfl⟩)
  subst hw
  subst hl
  have hR : Rt x h h (some (.int u)) ((some .int)) := ⟨h0e, hhf, hret, hQ⟩
  have hn : ∀ i, i < 2 → i < x.2.2.1.1.1 := fun i hi => by rw [hnl]; exact hi
  have e0 : lv_args 0 [vR x.2.2.2 x0, .int x1] = [(0, vR x.2.2.2 x0), (1, .int x1)] := by simp only [lv_argsR, lv_argsI, lv_argsL, lv_args0]
  rw [e0]
  unfold mX11_at
  refine j_iload_n (q := 1) hx (dc kX11_at_0 0 rfl) rfl 1 rfl rfl ?_
  refine j_if_lt (q := 4) (tgt := 16) hx (dc kX11_at_0 1 rfl) (by decide) Iff.rfl rfl ?_ ?_
  · refine j_iconst (q := 17) (v := (0 : Int32)) hx (dc kX11_at_0 10 rfl) (by decide) rfl ?_
    exact r_iR hx hR (dc kX11_at_0 11 rfl)
  · refine j_iload_n (q := 5) hx (dc kX11_at_0 2 rfl) rfl 1 rfl rfl ?_
    refine j_aload_n (q := 6) hx (dc kX11_at_0 3 rfl) rfl 0 rfl rfl ?_
    refine j_alen (q := 7) hx (dc kX11_at_0 4 rfl) rfl (fun v1 => ?_)
    refine j_icmp_geS (q := 10) (tgt := 16) hx (dc kX11_at_0 5 rfl) (by decide) rfl ?_ ?_
    · refine j_iconst (q := 17) (v := (0 : Int32)) hx (dc kX11_at_0 10 rfl) (by decide) rfl ?_
      exact r_iR hx hR (dc kX11_at_0 11 rfl)
    · refine j_aload_n (q := 11) hx (dc kX11_at_0 6 rfl) rfl 0 rfl rfl ?_
      refine j_iload_n (q := 12) hx (dc kX11_at_0 7 rfl) rfl 1 rfl rfl ?_
      refine j_ldI (q := 13) hx (dc kX11_at_0 8 rfl) rfl (fun v2 => ?_)
      refine j_goto (q := 17) hx (dc kX11_at_0 9 rfl) (by decide) ?_
      exact r_iR hx hR (dc kX11_at_0 11 rfl)

set_option maxHeartbeats 4000000 in
set_option maxRecDepth 100000 in
theorem sX1_table (l : Launch) (w : Wd) (x0 : Nat) (x1 : Int32) (h : Hp) (u : Nat) (hK : mX1_table x0 x1 h = some u) : M1 l w mi_X1_table 1 [vR w x0, .int x1] h h (some (vR w u)) := by
  refine M1.of (own := RX1) (T := fun _ r => r = u) hK (by decide +kernel) rfl (by first | (simp only [lg_lenR, lg_lenI, lg_lenL, lg_len0]; decide) | decide) (fun x hx hnl hhf hl hw hret hnm hQ h0e => ⟨?_, rfl⟩)
  subst hw
  subst hl
  have hR : Rt x h h (some (vR x.2.2.2 u)) ((some (.object "StruckCounts$Worlds"))) := ⟨h0e, hhf, hret, hQ⟩
  have hn : ∀ i, i < 2 → i < x.2.2.1.1.1 := fun i hi => by rw [hnl]; exact hi
  have e0 : lv_args 0 [vR x.2.2.2 x0, .int x1] = [(0, vR x.2.2.2 x0), (1, .int x1)] := by simp only [lv_argsR, lv_argsI, lv_argsL, lv_args0]
  rw [e0]
  have hb22 : ∀ (x0 : Nat), J x 22 [(0, vR x.2.2.2 x0)] [] h (mX1_table_b22 x0 h) (fun r => r = u) := by
    intro x0
    unfold mX1_table_b22
    refine j_aload_n (q := 23) hx (dc kX1_table_0 12 rfl) rfl 0 rfl rfl ?_
    refine w_gR (q := 26) hx (dc kX1_table_0 13 rfl) ff_X1_19 lk_X1_53 rfl (fun v1 => ?_)
    exact r_aR hx (Or.inl ⟨_, rfl⟩) hR (dc kX1_table_0 14 rfl)
  unfold mX1_table
  refine J.ckd fun hck => ?_
  refine j_iload_n (q := 1) hx (dc kX1_table_0 0 rfl) rfl 1 rfl rfl ?_
  refine j_if_lt (q := 4) (tgt := 22) hx (dc kX1_table_0 1 rfl) (by decide) Iff.rfl rfl ?_ ?_
  · exact j_sub [0] rfl (hb22 x0)
  · refine j_iload_n (q := 5) hx (dc kX1_table_0 2 rfl) rfl 1 rfl rfl ?_
    refine j_aload_n (q := 6) hx (dc kX1_table_0 3 rfl) rfl 0 rfl rfl ?_
    refine w_gR (q := 9) hx (dc kX1_table_0 4 rfl) ff_X1_18 lk_X1_49 rfl (fun v2 => ?_)
    refine j_alen (q := 10) hx (dc kX1_table_0 5 rfl) rfl (fun v3 => ?_)
    refine j_icmp_geS (q := 13) (tgt := 22) hx (dc kX1_table_0 6 rfl) (by decide) rfl ?_ ?_
    · exact j_sub [0] rfl (hb22 x0)
    · refine j_aload_n (q := 14) hx (dc kX1_table_0 7 rfl) rfl 0 rfl rfl ?_
      refine w_gR (q := 17) hx (dc kX1_table_0 8 rfl) ff_X1_18 lk_X1_49 rfl (fun v4 => ?_)
      refine j_iload_n (q := 18) hx (dc kX1_table_0 9 rfl) rfl 1 rfl rfl ?_
      refine j_ldR (t := 1) (q := 19) hx (dc kX1_table_0 10 rfl) rfl (by decide) rfl (fun v5 => ?_)
      refine j_ifnonnull (q := 22) (tgt := 27) hx (dc kX1_table_0 11 rfl) (by decide) rfl ?_ ?_
      · refine j_aload_n (q := 28) hx (dc kX1_table_0 15 rfl) rfl 0 rfl rfl ?_
        refine w_gR (q := 31) hx (dc kX1_table_0 16 rfl) ff_X1_18 lk_X1_49 rfl (fun v6 => ?_)
        refine j_iload_n (q := 32) hx (dc kX1_table_0 17 rfl) rfl 1 rfl rfl ?_
        refine j_ldR (t := 1) (q := 33) hx (dc kX1_table_0 18 rfl) rfl (by decide) rfl (fun v7 => ?_)
        exact r_aR hx (Or.inl ⟨_, rfl⟩) hR (dc kX1_table_0 19 rfl)
      · exact j_sub [0] rfl (hb22 x0)

set_option maxHeartbeats 4000000 in
set_option maxRecDepth 100000 in
theorem sX4_replace (l : Launch) (w : Wd) (x0 : Nat) (x1 : Int32) (x2 : Int64) (x4 : Int64) (h : Hp) (u : Hp) (hK : mX4_replace x0 x1 x2 x4 h = some u) : M1 l w mi_X4_replace 1 [vR w x0, .int x1, .long x2, .long x4] h u (none) := by
  refine M1.of (own := RX4) (T := fun _ r => r = u) hK (by decide +kernel) rfl (by first | (simp only [lg_lenR, lg_lenI, lg_lenL, lg_len0]; decide) | decide) (fun x hx hnl hhf hl hw hret hnm hQ h0e => ⟨?_, rfl⟩)
  subst hw
  subst hl
  have hR : Rt x h u (none) (none) := ⟨h0e, hhf, hret, hQ⟩
  have hn : ∀ i, i < 6 → i < x.2.2.1.1.1 := fun i hi => by rw [hnl]; exact hi
  have e0 : lv_args 0 [vR x.2.2.2 x0, .int x1, .long x2, .long x4] = [(0, vR x.2.2.2 x0), (1, .int x1), (2, .long x2), (4, .long x4)] := by simp only [lv_argsR, lv_argsI, lv_argsL, lv_args0]
  rw [e0]
  have hb62 : ∀ (x0 : Nat) (h : Hp), J x 62 [(0, vR x.2.2.2 x0)] [] h (mX4_replace_b62 x0 h) (fun r => r = u) := by
    intro x0 h
    unfold mX4_replace_b62
    refine j_aload_n (q := 63) hx (dc kX4_replace_0 33 rfl) rfl 0 rfl rfl ?_
    refine j_dup (q := 64) hx (dc kX4_replace_0 34 rfl) (vR_cat _ _) rfl ?_
    refine w_gI (q := 67) hx (dc kX4_replace_0 35 rfl) ff_X4_3 lk_X4_64 rfl (fun v4 => ?_)
    refine j_iconst (q := 68) (v := (1 : Int32)) hx (dc kX4_replace_0 36 rfl) (by decide) rfl ?_
    refine j_iadd (q := 69) hx (dc kX4_replace_0 37 rfl) rfl ?_
    refine w_sI (q := 72) hx (dc kX4_replace_0 38 rfl) ff_X4_3 rfl lk_X4_64 (Or.inl rfl) rfl (fun h5 => ?_)
    exact r_vW hx hR (dc kX4_replace_0 39 rfl)
  unfold mX4_replace
  refine J.ckd fun hck => ?_
  refine j_aload_n (q := 1) hx (dc kX4_replace_0 0 rfl) rfl 0 rfl rfl ?_
  refine j_dup (q := 2) hx (dc kX4_replace_0 1 rfl) (vR_cat _ _) rfl ?_
  refine w_gI (q := 5) hx (dc kX4_replace_0 2 rfl) ff_X4_3 lk_X4_64 rfl (fun v1 => ?_)
  refine j_iload_n (q := 6) hx (dc kX4_replace_0 3 rfl) rfl 1 rfl rfl ?_
  refine j_isub (q := 7) hx (dc kX4_replace_0 4 rfl) rfl ?_
  refine w_sI (q := 10) hx (dc kX4_replace_0 5 rfl) ff_X4_3 rfl lk_X4_64 (Or.inl rfl) rfl (fun h2 => ?_)
  refine j_aload_n (q := 11) hx (dc kX4_replace_0 6 rfl) rfl 0 rfl rfl ?_
  refine w_gI (q := 14) hx (dc kX4_replace_0 7 rfl) ff_X4_3 lk_X4_64 rfl (fun v3 => ?_)
  refine j_if_lt (q := 17) (tgt := 62) hx (dc kX4_replace_0 8 rfl) (by decide) Iff.rfl rfl ?_ ?_
  · exact j_sub [0] rfl (hb62 x0 h2)
  · refine j_aload_n (q := 18) hx (dc kX4_replace_0 9 rfl) rfl 0 rfl rfl ?_
    refine w_gI (q := 21) hx (dc kX4_replace_0 10 rfl) ff_X4_3 lk_X4_64 rfl (fun v6 => ?_)
    refine j_aload_n (q := 22) hx (dc kX4_replace_0 11 rfl) rfl 0 rfl rfl ?_
    refine w_gR (q := 25) hx (dc kX4_replace_0 12 rfl) ff_X4_0 lk_X4_11 rfl (fun v7 => ?_)
    refine j_alen (q := 26) hx (dc kX4_replace_0 13 rfl) rfl (fun v8 => ?_)
    refine j_icmp_geS (q := 29) (tgt := 62) hx (dc kX4_replace_0 14 rfl) (by decide) rfl ?_ ?_
    · exact j_sub [0] rfl (hb62 x0 h2)
    · refine j_aload_n (q := 30) hx (dc kX4_replace_0 15 rfl) rfl 0 rfl rfl ?_
      refine w_gI (q := 33) hx (dc kX4_replace_0 16 rfl) ff_X4_3 lk_X4_64 rfl (fun v9 => ?_)
      refine j_aload_n (q := 34) hx (dc kX4_replace_0 17 rfl) rfl 0 rfl rfl ?_
      refine w_gR (q := 37) hx (dc kX4_replace_0 18 rfl) ff_X4_1 lk_X4_15 rfl (fun v10 => ?_)
      refine j_alen (q := 38) hx (dc kX4_replace_0 19 rfl) rfl (fun v11 => ?_)
      refine j_icmp_geS (q := 41) (tgt := 62) hx (dc kX4_replace_0 20 rfl) (by decide) rfl ?_ ?_
      · exact j_sub [0] rfl (hb62 x0 h2)
      · refine j_aload_n (q := 42) hx (dc kX4_replace_0 21 rfl) rfl 0 rfl rfl ?_
        refine w_gR (q := 45) hx (dc kX4_replace_0 22 rfl) ff_X4_0 lk_X4_11 rfl (fun v12 => ?_)
        refine j_aload_n (q := 46) hx (dc kX4_replace_0 23 rfl) rfl 0 rfl rfl ?_
        refine w_gI (q := 49) hx (dc kX4_replace_0 24 rfl) ff_X4_3 lk_X4_64 rfl (fun v13 => ?_)
        refine j_lload_n (q := 50) hx (dc kX4_replace_0 25 rfl) rfl 2 rfl rfl ?_
        refine w_stL (q := 51) hx (dc kX4_replace_0 26 rfl) rfl (fun h14 => ?_)
        refine j_aload_n (q := 52) hx (dc kX4_replace_0 27 rfl) rfl 0 rfl rfl ?_
        refine w_gR (q := 55) hx (dc kX4_replace_0 28 rfl) ff_X4_1 lk_X4_15 rfl (fun v15 => ?_)
        refine j_aload_n (q := 56) hx (dc kX4_replace_0 29 rfl) rfl 0 rfl rfl ?_
        refine w_gI (q := 59) hx (dc kX4_replace_0 30 rfl) ff_X4_3 lk_X4_64 rfl (fun v16 => ?_)
        refine j_lload (q := 61) hx (dc kX4_replace_0 31 rfl) 3 rfl rfl ?_
        refine w_stL (q := 62) hx (dc kX4_replace_0 32 rfl) rfl (fun h17 => ?_)
        exact j_sub [0] rfl (hb62 x0 h17)

set_option maxHeartbeats 4000000 in
set_option maxRecDepth 100000 in
theorem sX4_leafYes (l : Launch) (w : Wd) (x0 : Nat) (x1 : Int32) (h : Hp) (u : Int64) (hK : mX4_leafYes x0 x1 h = some u) : M1 l w mi_X4_leafYes 2 [vR w x0, .int x1] h h (some (.long u)) := by
  refine M1.of (own := RX4) (T := fun _ r => r = u) hK (by decide +kernel) rfl (by first | (simp only [lg_lenR, lg_lenI, lg_lenL, lg_len0]; decide) | decide) (fun x hx hnl hhf hl hw hret hnm hQ h0e => ⟨?_, rfl⟩)
  subst hw
  subst hl
  have hR : Rt x h h (some (.long u)) ((some .long)) := ⟨h0e, hhf, hret, hQ⟩
  have hn : ∀ i, i < 2 → i < x.2.2.1.1.1 := fun i hi => by rw [hnl]; exact hi
  have e0 : lv_args 0 [vR x.2.2.2 x0, .int x1] = [(0, vR x.2.2.2 x0), (1, .int x1)] := by simp only [lv_argsR, lv_argsI, lv_argsL, lv_args0]
  rw [e0]
  unfold mX4_leafYes
  refine J.ckd fun hck => ?_
  refine j_aload_n (q := 1) hx (dc kX4_leafYes_0 0 rfl) rfl 0 rfl rfl ?_
  refine w_gI (q := 4) hx (dc kX4_leafYes_0 1 rfl) ff_X4_4 lk_X4_21 rfl (fun v1 => ?_)
  refine j_iconst (q := 5) (v := (-1 : Int32)) hx (dc kX4_leafYes_0 2 rfl) (by decide) rfl ?_
  refine j_icmp_neS (q := 8) (tgt := 32) hx (dc kX4_leafYes_0 3 rfl) (by decide) rfl ?_ ?_
  · refine j_iload_n (q := 33) hx (dc kX4_leafYes_0 16 rfl) rfl 1 rfl rfl ?_
    refine j_aload_n (q := 34) hx (dc kX4_leafYes_0 17 rfl) rfl 0 rfl rfl ?_
    refine w_gI (q := 37) hx (dc kX4_leafYes_0 18 rfl) ff_X4_4 lk_X4_21 rfl (fun v2 => ?_)
    refine w_cSJR (q := 40) (As := [.int x1, .int v2]) (st := []) hx (dc kX4_leafYes_0 19 rfl) (cI _ my_X10_soIn lm_X4_91 (by decide)) st_X10_soIn rfl (fun u hu => sX10_soIn _ _ _ _ _ _ hu) (Nat.zero_le _) rfl (fun v3 => ?_)
    exact r_lR hx hR (dc kX4_leafYes_0 20 rfl)
  · refine j_aload_n (q := 9) hx (dc kX4_leafYes_0 4 rfl) rfl 0 rfl rfl ?_
    refine w_gI (q := 12) hx (dc kX4_leafYes_0 5 rfl) ff_X4_5 lk_X4_42 rfl (fun v5 => ?_)
    refine j_aload_n (q := 13) hx (dc kX4_leafYes_0 6 rfl) rfl 0 rfl rfl ?_
    refine w_gI (q := 16) hx (dc kX4_leafYes_0 7 rfl) ff_X4_6 lk_X4_45 rfl (fun v6 => ?_)
    refine j_iand (q := 17) hx (dc kX4_leafYes_0 8 rfl) rfl ?_
    refine j_iload_n (q := 18) hx (dc kX4_leafYes_0 9 rfl) rfl 1 rfl rfl ?_
    refine w_cSIR (q := 21) (As := [.int (v5 &&& v6), .int x1]) (st := []) hx (dc kX4_leafYes_0 10 rfl) (cI _ my_X11_has lm_X4_85 (by decide)) st_X11_has rfl (fun u hu => sX11_has _ _ _ _ _ _ hu) (Nat.zero_le _) rfl (fun v7 => ?_)
    refine j_if_eq (q := 24) (tgt := 30) hx (dc kX4_leafYes_0 11 rfl) (by decide) Iff.rfl rfl ?_ ?_
    · refine j_lconst (q := 31) (v := (0 : Int64)) hx (dc kX4_leafYes_0 14 rfl) (by decide) rfl ?_
      exact r_lR hx hR (dc kX4_leafYes_0 15 rfl)
    · refine j_ldc2 (q := 27) hx kl_X4_89 (dc kX4_leafYes_0 12 rfl) rfl ?_
      refine j_goto (q := 31) hx (dc kX4_leafYes_0 13 rfl) (by decide) ?_
      exact r_lR hx hR (dc kX4_leafYes_0 15 rfl)

set_option maxHeartbeats 4000000 in
set_option maxRecDepth 100000 in
theorem sX4_leafNo (l : Launch) (w : Wd) (x0 : Nat) (x1 : Int32) (h : Hp) (u : Int64) (hK : mX4_leafNo x0 x1 h = some u) : M1 l w mi_X4_leafNo 2 [vR w x0, .int x1] h h (some (.long u)) := by
  refine M1.of (own := RX4) (T := fun _ r => r = u) hK (by decide +kernel) rfl (by first | (simp only [lg_lenR, lg_lenI, lg_lenL, lg_len0]; decide) | decide) (fun x hx hnl hhf hl hw hret hnm hQ h0e => ⟨?_, rfl⟩)
  subst hw
  subst hl
  have hR : Rt x h h (some (.long u)) ((some .long)) := ⟨h0e, hhf, hret, hQ⟩
  have hn : ∀ i, i < 2 → i < x.2.2.1.1.1 := fun i hi => by rw [hnl]; exact hi
  have e0 : lv_args 0 [vR x.2.2.2 x0, .int x1] = [(0, vR x.2.2.2 x0), (1, .int x1)] := by simp only [lv_argsR, lv_argsI, lv_argsL, lv_args0]
  rw [e0]
  unfold mX4_leafNo
  refine J.ckd fun hck => ?_
  refine j_aload_n (q := 1) hx (dc kX4_leafNo_0 0 rfl) rfl 0 rfl rfl ?_
  refine w_gI (q := 4) hx (dc kX4_leafNo_0 1 rfl) ff_X4_4 lk_X4_21 rfl (fun v1 => ?_)
  refine j_iconst (q := 5) (v := (-1 : Int32)) hx (dc kX4_leafNo_0 2 rfl) (by decide) rfl ?_
  refine j_icmp_neS (q := 8) (tgt := 34) hx (dc kX4_leafNo_0 3 rfl) (by decide) rfl ?_ ?_
  · refine j_iload_n (q := 35) hx (dc kX4_leafNo_0 18 rfl) rfl 1 rfl rfl ?_
    refine j_aload_n (q := 36) hx (dc kX4_leafNo_0 19 rfl) rfl 0 rfl rfl ?_
    refine w_gI (q := 39) hx (dc kX4_leafNo_0 20 rfl) ff_X4_4 lk_X4_21 rfl (fun v2 => ?_)
    refine w_cSJR (q := 42) (As := [.int x1, .int v2]) (st := []) hx (dc kX4_leafNo_0 21 rfl) (cI _ my_X10_soIn lm_X4_91 (by decide)) st_X10_soIn rfl (fun u hu => sX10_soIn _ _ _ _ _ _ hu) (Nat.zero_le _) rfl (fun v3 => ?_)
    refine j_ldc2 (q := 45) hx kl_X4_89 (dc kX4_leafNo_0 22 rfl) rfl ?_
    refine j_lxor (q := 46) hx (dc kX4_leafNo_0 23 rfl) rfl ?_
    exact r_lR hx hR (dc kX4_leafNo_0 24 rfl)
  · refine j_aload_n (q := 9) hx (dc kX4_leafNo_0 4 rfl) rfl 0 rfl rfl ?_
    refine w_gI (q := 12) hx (dc kX4_leafNo_0 5 rfl) ff_X4_5 lk_X4_42 rfl (fun v5 => ?_)
    refine j_aload_n (q := 13) hx (dc kX4_leafNo_0 6 rfl) rfl 0 rfl rfl ?_
    refine w_gI (q := 16) hx (dc kX4_leafNo_0 7 rfl) ff_X4_6 lk_X4_45 rfl (fun v6 => ?_)
    refine j_iconst (q := 17) (v := (-1 : Int32)) hx (dc kX4_leafNo_0 8 rfl) (by decide) rfl ?_
    refine j_ixor (q := 18) hx (dc kX4_leafNo_0 9 rfl) rfl ?_
    refine j_iand (q := 19) hx (dc kX4_leafNo_0 10 rfl) rfl ?_
    refine j_iload_n (q := 20) hx (dc kX4_leafNo_0 11 rfl) rfl 1 rfl rfl ?_
    refine w_cSIR (q := 23) (As := [.int (v5 &&& (v6 ^^^ (-1 : Int32))), .int x1]) (st := []) hx (dc kX4_leafNo_0 12 rfl) (cI _ my_X11_has lm_X4_85 (by decide)) st_X11_has rfl (fun u hu => sX11_has _ _ _ _ _ _ hu) (Nat.zero_le _) rfl (fun v7 => ?_)
    refine j_if_eq (q := 26) (tgt := 32) hx (dc kX4_leafNo_0 13 rfl) (by decide) Iff.rfl rfl ?_ ?_
    · refine j_lconst (q := 33) (v := (0 : Int64)) hx (dc kX4_leafNo_0 16 rfl) (by decide) rfl ?_
      exact r_lR hx hR (dc kX4_leafNo_0 17 rfl)
    · refine j_ldc2 (q := 29) hx kl_X4_89 (dc kX4_leafNo_0 14 rfl) rfl ?_
      refine j_goto (q := 33) hx (dc kX4_leafNo_0 15 rfl) (by decide) ?_
      exact r_lR hx hR (dc kX4_leafNo_0 17 rfl)

set_option maxHeartbeats 4000000 in
set_option maxRecDepth 100000 in
theorem sX4_top (l : Launch) (w : Wd) (x0 : Nat) (x1 : Nat) (x2 : Int32) (h : Hp) (u : Int64) (hK : mX4_top x0 x1 x2 h = some u) : M1 l w mi_X4_top 1 [vR w x0, vR w x1, .int x2] h h (some (.long u)) := by
  refine M1.of (own := RX4) (T := fun _ r => r = u) hK (by decide +kernel) rfl (by first | (simp only [lg_lenR, lg_lenI, lg_lenL, lg_len0]; decide) | decide) (fun x hx hnl hhf hl hw hret hnm hQ h0e => ⟨?_, rfl⟩)
  subst hw
  subst hl
  have hR : Rt x h h (some (.long u)) ((some .long)) := ⟨h0e, hhf, hret, hQ⟩
  have hn : ∀ i, i < 4 → i < x.2.2.1.1.1 := fun i hi => by rw [hnl]; exact hi
  have e0 : lv_args 0 [vR x.2.2.2 x0, vR x.2.2.2 x1, .int x2] = [(0, vR x.2.2.2 x0), (1, vR x.2.2.2 x1), (2, .int x2)] := by simp only [lv_argsR, lv_argsI, lv_argsL, lv_args0]
  rw [e0]
  unfold mX4_top
  refine J.ckd fun hck => ?_
  refine j_aload_n (q := 1) hx (dc kX4_top_0 0 rfl) rfl 0 rfl rfl ?_
  refine w_gI (q := 4) hx (dc kX4_top_0 1 rfl) ff_X4_3 lk_X4_64 rfl (fun v1 => ?_)
  refine j_iconst (q := 5) (v := (1 : Int32)) hx (dc kX4_top_0 2 rfl) (by decide) rfl ?_
  refine j_isub (q := 6) hx (dc kX4_top_0 3 rfl) rfl ?_
  refine j_iload_n (q := 7) hx (dc kX4_top_0 4 rfl) rfl 2 rfl rfl ?_
  refine j_isub (q := 8) hx (dc kX4_top_0 5 rfl) rfl ?_
  refine j_istore_n (q := 9) (i := 3) (l2 := [(1, vR x.2.2.2 x1)]) hx (dc kX4_top_0 6 rfl) rfl (hn 3 (by decide)) [1] rfl ⟨⟨show (1 : Nat) ≠ 3 by decide, Or.inl (show (1 : Nat) + 1 ≠ 3 by decide)⟩, trivial⟩ rfl ?_
  refine j_iload_n (q := 10) hx (dc kX4_top_0 7 rfl) rfl 0 rfl rfl ?_
  refine j_if_lt (q := 13) (tgt := 25) hx (dc kX4_top_0 8 rfl) (by decide) Iff.rfl rfl ?_ ?_
  · refine j_lconst (q := 26) (v := (0 : Int64)) hx (dc kX4_top_0 17 rfl) (by decide) rfl ?_
    exact r_lR hx hR (dc kX4_top_0 18 rfl)
  · refine j_iload_n (q := 14) hx (dc kX4_top_0 9 rfl) rfl 0 rfl rfl ?_
    refine j_aload_n (q := 15) hx (dc kX4_top_0 10 rfl) rfl 1 rfl rfl ?_
    refine j_alen (q := 16) hx (dc kX4_top_0 11 rfl) rfl (fun v2 => ?_)
    refine j_icmp_geS (q := 19) (tgt := 25) hx (dc kX4_top_0 12 rfl) (by decide) rfl ?_ ?_
    · refine j_lconst (q := 26) (v := (0 : Int64)) hx (dc kX4_top_0 17 rfl) (by decide) rfl ?_
      exact r_lR hx hR (dc kX4_top_0 18 rfl)
    · refine j_aload_n (q := 20) hx (dc kX4_top_0 13 rfl) rfl 1 rfl rfl ?_
      refine j_iload_n (q := 21) hx (dc kX4_top_0 14 rfl) rfl 0 rfl rfl ?_
      refine j_ldL (q := 22) hx (dc kX4_top_0 15 rfl) rfl (fun v3 => ?_)
      refine j_goto (q := 26) hx (dc kX4_top_0 16 rfl) (by decide) ?_
      exact r_lR hx hR (dc kX4_top_0 18 rfl)

set_option maxHeartbeats 4000000 in
set_option maxRecDepth 100000 in
theorem sX11_longAt (l : Launch) (w : Wd) (x0 : Nat) (x1 : Int32) (h : Hp) (u : Int64) (hK : mX11_longAt x0 x1 h = some u) : M1 l w mi_X11_longAt 1 [vR w x0, .int x1] h h (some (.long u)) := by
  refine M1.of (own := RX11) (T := fun _ r => r = u) hK (by decide +kernel) rfl (by first | (simp only [lg_lenR, lg_lenI, lg_lenL, lg_len0]; decide) | decide) (fun x hx hnl hhf hl hw hret hnm hQ h0e => ⟨?_, rfl⟩)
  subst hw
  subst hl
  have hR : Rt x h h (some (.long u)) ((some .long)) := ⟨h0e, hhf, hret, hQ⟩
  have hn : ∀ i, i < 2 → i < x.2.2.1.1.1 := fun i hi => by rw [hnl]; exact hi
  have e0 : lv_args 0 [vR x.2.2.2 x0, .int x1] = [(0, vR x.2.2.2 x0), (1, .int x1)] := by simp only [lv_argsR, lv_argsI, lv_argsL, lv_args0]
  rw [e0]
  unfold mX11_longAt
  refine j_iload_n (q := 1) hx (dc kX11_longAt_0 0 rfl) rfl 1 rfl rfl ?_
  refine j_if_lt (q := 4) (tgt := 16) hx (dc kX11_longAt_0 1 rfl) (by decide) Iff.rfl rfl ?_ ?_
  · refine j_lconst (q := 17) (v := (0 : Int64)) hx (dc kX11_longAt_0 10 rfl) (by decide) rfl ?_
    exact r_lR hx hR (dc kX11_longAt_0 11 rfl)
  · refine j_iload_n (q := 5) hx (dc kX11_longAt_0 2 rfl) rfl 1 rfl rfl ?_
    refine j_aload_n (q := 6) hx (dc kX11_longAt_0 3 rfl) rfl 0 rfl rfl ?_
    refine j_alen (q := 7) hx (dc kX11_longAt_0 4 rfl) rfl (fun v1 => ?_)
    refine j_icmp_geS (q := 10) (tgt := 16) hx (dc kX11_longAt_0 5 rfl) (by decide) rfl ?_ ?_
    · refine j_lconst (q := 17) (v := (0 : Int64)) hx (dc kX11_longAt_0 10 rfl) (by decide) rfl ?_
      exact r_lR hx hR (dc kX11_longAt_0 11 rfl)
    · refine j_aload_n (q := 11) hx (dc kX11_longAt_0 6 rfl) rfl 0 rfl rfl ?_
      refine j_iload_n (q := 12) hx (dc kX11_longAt_0 7 rfl) rfl 1 rfl rfl ?_
      refine j_ldL (q := 13) hx (dc kX11_longAt_0 8 rfl) rfl (fun v2 => ?_)
      refine j_goto (q := 17) hx (dc kX11_longAt_0 9 rfl) (by decide) ?_
      exact r_lR hx hR (dc kX11_longAt_0 11 rfl)

set_option maxHeartbeats 4000000 in
set_option maxRecDepth 100000 in
theorem sX4_atLeast (l : Launch) (w : Wd) (x0 : Nat) (x1 : Int32) (x2 : Nat) (x3 : Int32) (h : Hp) (u : (Int64 × Hp)) (hK : mX4_atLeast x0 x1 x2 x3 h = some u) : M1 l w mi_X4_atLeast 2 [vR w x0, .int x1, vR w x2, .int x3] h u.2 (some (.long u.1)) := by
  refine M1.of (own := RX4) (T := fun _ r => r = u) hK (by decide +kernel) rfl (by first | (simp only [lg_lenR, lg_lenI, lg_lenL, lg_len0]; decide) | decide) (fun x hx hnl hhf hl hw hret hnm hQ h0e => ⟨?_, rfl⟩)
  subst hw
  subst hl
  have hR : Rt x h u.2 (some (.long u.1)) ((some .long)) := ⟨h0e, hhf, hret, hQ⟩
  have hn : ∀ i, i < 8 → i < x.2.2.1.1.1 := fun i hi => by rw [hnl]; exact hi
  have e0 : lv_args 0 [vR x.2.2.2 x0, .int x1, vR x.2.2.2 x2, .int x3] = [(0, vR x.2.2.2 x0), (1, .int x1), (2, vR x.2.2.2 x2), (3, .int x3)] := by simp only [lv_argsR, lv_argsI, lv_argsL, lv_args0]
  rw [e0]
  have hb56 : ∀ (x0 : Nat) (x1 : Int32) (x2 : Nat) (x3 : Int32) (x4 : Int32) (h : Hp), J x 56 [(0, vR x.2.2.2 x0), (1, .int x1), (2, vR x.2.2.2 x2), (3, .int x3), (4, .int x4)] [] h (mX4_atLeast_l56 x0 x1 x2 x3 x4 h) (fun r => r = u) := by
    intro x0 x1 x2 x3 x4 h
    have hB : ∀ (x4 : Int32) (h : Hp), J x 56 [(0, vR x.2.2.2 x0), (1, .int x1), (2, vR x.2.2.2 x2), (3, .int x3), (4, .int x4)] [] h (mX4_atLeast_l56f x0 x1 x2 x3 x4 h) (TLo (S := (Int32 × Hp)) x 56 (fun s => [(0, vR x.2.2.2 x0), (1, .int x1), (2, vR x.2.2.2 x2), (3, .int x3), (4, .int s.1)]) [] (fun s => s.2) (fun r => r = u)) := by
      intro x4 h
      have hb80 : ∀ (x0 : Nat) (x1 : Int32) (x2 : Nat) (x3 : Int32) (x4 : Int32) (x5 : Int64) (x7 : Int32) (h : Hp), J x 80 [(0, vR x.2.2.2 x0), (1, .int x1), (2, vR x.2.2.2 x2), (3, .int x3), (4, .int x4), (5, .long x5), (7, .int x7)] [] h (mX4_atLeast_l80 x0 x1 x2 x3 x4 x5 x7 h) (TLo (S := (Int32 × Hp)) x 56 (fun s => [(0, vR x.2.2.2 x0), (1, .int x1), (2, vR x.2.2.2 x2), (3, .int x3), (4, .int s.1)]) [] (fun s => s.2) (fun r => r = u)) := by
        intro x0 x1 x2 x3 x4 x5 x7 h
        have hB : ∀ (x7 : Int32) (h : Hp), J x 80 [(0, vR x.2.2.2 x0), (1, .int x1), (2, vR x.2.2.2 x2), (3, .int x3), (4, .int x4), (5, .long x5), (7, .int x7)] [] h (mX4_atLeast_l80f x0 x1 x2 x3 x4 x5 x7 h) (TLo (S := (Int32 × Hp)) x 80 (fun s => [(0, vR x.2.2.2 x0), (1, .int x1), (2, vR x.2.2.2 x2), (3, .int x3), (4, .int x4), (5, .long x5), (7, .int s.1)]) [] (fun s => s.2) (TLo (S := (Int32 × Hp)) x 56 (fun s => [(0, vR x.2.2.2 x0), (1, .int x1), (2, vR x.2.2.2 x2), (3, .int x3), (4, .int s.1)]) [] (fun s => s.2) (fun r => r = u))) := by
          intro x7 h
          unfold mX4_atLeast_l80f
          refine j_iload (q := 82) hx (dc kX4_atLeast_0 43 rfl) 6 rfl rfl ?_
          refine j_if_leS (q := 85) (tgt := 113) hx (dc kX4_atLeast_0 44 rfl) (by decide) rfl ?_ ?_
          · refine j_exit ?_
            refine j_iinc (q := 116) (l2 := [(0, vR x.2.2.2 x0), (1, .int x1), (2, vR x.2.2.2 x2), (3, .int x3)]) hx (dc kX4_atLeast_0 62 rfl) 4 rfl (v := (1 : Int32)) (by decide) (hn 4 (by decide)) [0, 1, 2, 3] rfl ⟨⟨show (0 : Nat) ≠ 4 by decide, Or.inl (show (0 : Nat) + 1 ≠ 4 by decide)⟩, ⟨⟨show (1 : Nat) ≠ 4 by decide, Or.inl (show (1 : Nat) + 1 ≠ 4 by decide)⟩, ⟨⟨show (2 : Nat) ≠ 4 by decide, Or.inl (show (2 : Nat) + 1 ≠ 4 by decide)⟩, ⟨⟨show (3 : Nat) ≠ 4 by decide, Or.inr rfl⟩, trivial⟩⟩⟩⟩ rfl ?_
            refine j_goto (q := 56) hx (dc kX4_atLeast_0 63 rfl) (by decide) ?_
            exact j_back [1, 2, 3, 4, 0] ((x4 + (1 : Int32)), h) rfl rfl
          · refine j_aload_n (q := 86) hx (dc kX4_atLeast_0 45 rfl) rfl 0 rfl rfl ?_
            refine w_gR (q := 89) hx (dc kX4_atLeast_0 46 rfl) ff_X4_2 lk_X4_18 rfl (fun v10 => ?_)
            refine j_iload (q := 91) hx (dc kX4_atLeast_0 47 rfl) 6 rfl rfl ?_
            refine j_dup2_11 (q := 92) hx (dc kX4_atLeast_0 48 rfl) rfl (vR_cat _ _) rfl ?_
            refine j_ldL (q := 93) hx (dc kX4_atLeast_0 49 rfl) rfl (fun v11 => ?_)
            refine j_aload_n (q := 94) hx (dc kX4_atLeast_0 50 rfl) rfl 0 rfl rfl ?_
            refine w_gR (q := 97) hx (dc kX4_atLeast_0 51 rfl) ff_X4_2 lk_X4_18 rfl (fun v12 => ?_)
            refine j_iload (q := 99) hx (dc kX4_atLeast_0 52 rfl) 6 rfl rfl ?_
            refine j_iconst (q := 100) (v := (1 : Int32)) hx (dc kX4_atLeast_0 53 rfl) (by decide) rfl ?_
            refine j_isub (q := 101) hx (dc kX4_atLeast_0 54 rfl) rfl ?_
            refine j_ldL (q := 102) hx (dc kX4_atLeast_0 55 rfl) rfl (fun v13 => ?_)
            refine j_lload (q := 104) hx (dc kX4_atLeast_0 56 rfl) 5 rfl rfl ?_
            refine j_land (q := 105) hx (dc kX4_atLeast_0 57 rfl) rfl ?_
            refine j_lor (q := 106) hx (dc kX4_atLeast_0 58 rfl) rfl ?_
            refine w_stL (q := 107) hx (dc kX4_atLeast_0 59 rfl) rfl (fun h14 => ?_)
            refine j_iinc (q := 110) (l2 := [(0, vR x.2.2.2 x0), (1, .int x1), (2, vR x.2.2.2 x2), (3, .int x3), (4, .int x4), (5, .long x5)]) hx (dc kX4_atLeast_0 60 rfl) 6 rfl (v := (-1 : Int32)) (by decide) (hn 7 (by decide)) [0, 1, 2, 3, 4, 5] rfl ⟨⟨show (0 : Nat) ≠ 7 by decide, Or.inl (show (0 : Nat) + 1 ≠ 7 by decide)⟩, ⟨⟨show (1 : Nat) ≠ 7 by decide, Or.inl (show (1 : Nat) + 1 ≠ 7 by decide)⟩, ⟨⟨show (2 : Nat) ≠ 7 by decide, Or.inl (show (2 : Nat) + 1 ≠ 7 by decide)⟩, ⟨⟨show (3 : Nat) ≠ 7 by decide, Or.inl (show (3 : Nat) + 1 ≠ 7 by decide)⟩, ⟨⟨show (4 : Nat) ≠ 7 by decide, Or.inl (show (4 : Nat) + 1 ≠ 7 by decide)⟩, ⟨⟨show (5 : Nat) ≠ 7 by decide, Or.inl (show (5 : Nat) + 1 ≠ 7 by decide)⟩, trivial⟩⟩⟩⟩⟩⟩ rfl ?_
            refine j_goto (q := 80) hx (dc kX4_atLeast_0 61 rfl) (by decide) ?_
            exact j_back [1, 2, 3, 4, 5, 6, 0] ((x7 + (-1 : Int32)), h14) rfl rfl
        exact j_loop (S := (Int32 × Hp)) (lvf := fun s => [(0, vR x.2.2.2 x0), (1, .int x1), (2, vR x.2.2.2 x2), (3, .int x3), (4, .int x4), (5, .long x5), (7, .int s.1)]) (hpf := fun s => s.2) (f := (fun s : (Int32 × Hp) => mX4_atLeast_l80f x0 x1 x2 x3 x4 x5 s.1 s.2)) (fun s => hB s.1 s.2) (x7, h)
      unfold mX4_atLeast_l56f
      refine j_iload (q := 58) hx (dc kX4_atLeast_0 29 rfl) 4 rfl rfl ?_
      refine j_iload_n (q := 59) hx (dc kX4_atLeast_0 30 rfl) rfl 3 rfl rfl ?_
      refine j_icmp_geS (q := 62) (tgt := 119) hx (dc kX4_atLeast_0 31 rfl) (by decide) rfl ?_ ?_
      · refine j_exit ?_
        refine j_aload_n (q := 120) hx (dc kX4_atLeast_1 0 rfl) rfl 0 rfl rfl ?_
        refine w_gR (q := 123) hx (dc kX4_atLeast_1 1 rfl) ff_X4_2 lk_X4_18 rfl (fun v3 => ?_)
        refine j_iload_n (q := 124) hx (dc kX4_atLeast_1 2 rfl) rfl 1 rfl rfl ?_
        refine w_cSJR (q := 127) (As := [vR x.2.2.2 v3, .int x1]) (st := []) hx (dc kX4_atLeast_1 3 rfl) (cI _ my_X11_longAt lm_X4_34 (by decide)) st_X11_longAt rfl (fun u hu => sX11_longAt _ _ _ _ _ _ hu) (Nat.zero_le _) rfl (fun v4 => ?_)
        exact r_lW hx hR (dc kX4_atLeast_1 4 rfl)
      · refine j_aload_n (q := 63) hx (dc kX4_atLeast_0 32 rfl) rfl 0 rfl rfl ?_
        refine j_aload_n (q := 64) hx (dc kX4_atLeast_0 33 rfl) rfl 2 rfl rfl ?_
        refine j_iload (q := 66) hx (dc kX4_atLeast_0 34 rfl) 4 rfl rfl ?_
        refine w_cVJR (q := 69) (As := [vR x.2.2.2 x2, .int x4]) (st := []) hx (dc kX4_atLeast_0 35 rfl) cf4 (by decide) rfl (cI _ my_X4_top lm_X4_78 (by decide)) vs_X4_top rfl (fun u hu => sX4_top _ _ _ _ _ _ _ hu) (fun e => ite_ne (by unfold mX4_top at e; exact e)) (Nat.zero_le _) rfl (fun v6 => ?_)
        refine j_lstore (q := 71) (i := 5) (l2 := [(0, vR x.2.2.2 x0), (1, .int x1), (2, vR x.2.2.2 x2), (3, .int x3), (4, .int x4)]) hx (dc kX4_atLeast_0 36 rfl) (hn 6 (by decide)) [0, 1, 2, 3, 4] rfl ⟨⟨show (0 : Nat) ≠ 5 by decide, Or.inl (show (0 : Nat) + 1 ≠ 5 by decide)⟩, ⟨⟨show (1 : Nat) ≠ 5 by decide, Or.inl (show (1 : Nat) + 1 ≠ 5 by decide)⟩, ⟨⟨show (2 : Nat) ≠ 5 by decide, Or.inl (show (2 : Nat) + 1 ≠ 5 by decide)⟩, ⟨⟨show (3 : Nat) ≠ 5 by decide, Or.inl (show (3 : Nat) + 1 ≠ 5 by decide)⟩, ⟨⟨show (4 : Nat) ≠ 5 by decide, Or.inr rfl⟩, trivial⟩⟩⟩⟩⟩ (by simp) rfl ?_
        refine j_aload_n (q := 72) hx (dc kX4_atLeast_0 37 rfl) rfl 1 rfl rfl ?_
        refine w_gR (q := 75) hx (dc kX4_atLeast_0 38 rfl) ff_X4_2 lk_X4_18 rfl (fun v8 => ?_)
        refine j_alen (q := 76) hx (dc kX4_atLeast_0 39 rfl) rfl (fun v9 => ?_)
        refine j_iconst (q := 77) (v := (1 : Int32)) hx (dc kX4_atLeast_0 40 rfl) (by decide) rfl ?_
        refine j_isub (q := 78) hx (dc kX4_atLeast_0 41 rfl) rfl ?_
        refine j_istore (q := 80) (i := 7) (l2 := [(5, .long v6), (0, vR x.2.2.2 x0), (1, .int x1), (2, vR x.2.2.2 x2), (3, .int x3), (4, .int x4)]) hx (dc kX4_atLeast_0 42 rfl) (hn 7 (by decide)) [0, 1, 2, 3, 4, 5] rfl ⟨⟨show (5 : Nat) ≠ 7 by decide, Or.inl (show (5 : Nat) + 1 ≠ 7 by decide)⟩, ⟨⟨show (0 : Nat) ≠ 7 by decide, Or.inl (show (0 : Nat) + 1 ≠ 7 by decide)⟩, ⟨⟨show (1 : Nat) ≠ 7 by decide, Or.inl (show (1 : Nat) + 1 ≠ 7 by decide)⟩, ⟨⟨show (2 : Nat) ≠ 7 by decide, Or.inl (show (2 : Nat) + 1 ≠ 7 by decide)⟩, ⟨⟨show (3 : Nat) ≠ 7 by decide, Or.inl (show (3 : Nat) + 1 ≠ 7 by decide)⟩, ⟨⟨show (4 : Nat) ≠ 7 by decide, Or.inl (show (4 : Nat) + 1 ≠ 7 by decide)⟩, trivial⟩⟩⟩⟩⟩⟩ rfl ?_
        exact j_sub [2, 3, 4, 5, 6, 1, 0] rfl (hb80 x0 x1 x2 x3 x4 v6 (v9 - (1 : Int32)) h)
    exact j_loop (S := (Int32 × Hp)) (lvf := fun s => [(0, vR x.2.2.2 x0), (1, .int x1), (2, vR x.2.2.2 x2), (3, .int x3), (4, .int s.1)]) (hpf := fun s => s.2) (f := (fun s : (Int32 × Hp) => mX4_atLeast_l56f x0 x1 x2 x3 s.1 s.2)) (fun s => hB s.1 s.2) (x4, h)
  have hb18 : ∀ (x0 : Nat) (x1 : Int32) (x2 : Nat) (x3 : Int32) (x4 : Int32) (h : Hp), J x 18 [(0, vR x.2.2.2 x0), (1, .int x1), (2, vR x.2.2.2 x2), (3, .int x3), (4, .int x4)] [] h (mX4_atLeast_l18 x0 x1 x2 x3 x4 h) (fun r => r = u) := by
    intro x0 x1 x2 x3 x4 h
    have hB : ∀ (x4 : Int32) (h : Hp), J x 18 [(0, vR x.2.2.2 x0), (1, .int x1), (2, vR x.2.2.2 x2), (3, .int x3), (4, .int x4)] [] h (mX4_atLeast_l18f x0 x1 x2 x3 x4 h) (TLo (S := (Int32 × Hp)) x 18 (fun s => [(0, vR x.2.2.2 x0), (1, .int x1), (2, vR x.2.2.2 x2), (3, .int x3), (4, .int s.1)]) [] (fun s => s.2) (fun r => r = u)) := by
      intro x4 h
      have hb46 : ∀ (x0 : Nat) (x1 : Int32) (x2 : Nat) (x3 : Int32) (x4 : Int32) (t0 : Nat) (t1 : Int32) (t2 : Int64) (h : Hp), J x 46 [(0, vR x.2.2.2 x0), (1, .int x1), (2, vR x.2.2.2 x2), (3, .int x3), (4, .int x4)] [.long t2, .int t1, vR x.2.2.2 t0] h (mX4_atLeast_b46 x0 x1 x2 x3 x4 t0 t1 t2 h) (TLo (S := (Int32 × Hp)) x 18 (fun s => [(0, vR x.2.2.2 x0), (1, .int x1), (2, vR x.2.2.2 x2), (3, .int x3), (4, .int s.1)]) [] (fun s => s.2) (fun r => r = u)) := by
        intro x0 x1 x2 x3 x4 t0 t1 t2 h
        unfold mX4_atLeast_b46
        refine w_stL (q := 47) hx (dc kX4_atLeast_0 24 rfl) rfl (fun h16 => ?_)
        refine j_iinc (q := 50) (l2 := [(0, vR x.2.2.2 x0), (1, .int x1), (2, vR x.2.2.2 x2), (3, .int x3)]) hx (dc kX4_atLeast_0 25 rfl) 4 rfl (v := (1 : Int32)) (by decide) (hn 4 (by decide)) [0, 1, 2, 3] rfl ⟨⟨show (0 : Nat) ≠ 4 by decide, Or.inl (show (0 : Nat) + 1 ≠ 4 by decide)⟩, ⟨⟨show (1 : Nat) ≠ 4 by decide, Or.inl (show (1 : Nat) + 1 ≠ 4 by decide)⟩, ⟨⟨show (2 : Nat) ≠ 4 by decide, Or.inl (show (2 : Nat) + 1 ≠ 4 by decide)⟩, ⟨⟨show (3 : Nat) ≠ 4 by decide, Or.inr rfl⟩, trivial⟩⟩⟩⟩ rfl ?_
        refine j_goto (q := 18) hx (dc kX4_atLeast_0 26 rfl) (by decide) ?_
        exact j_back [1, 2, 3, 4, 0] ((x4 + (1 : Int32)), h16) rfl rfl
      unfold mX4_atLeast_l18f
      refine j_iload (q := 20) hx (dc kX4_atLeast_0 11 rfl) 4 rfl rfl ?_
      refine j_aload_n (q := 21) hx (dc kX4_atLeast_0 12 rfl) rfl 0 rfl rfl ?_
      refine w_gR (q := 24) hx (dc kX4_atLeast_0 13 rfl) ff_X4_2 lk_X4_18 rfl (fun v1 => ?_)
      refine j_alen (q := 25) hx (dc kX4_atLeast_0 14 rfl) rfl (fun v2 => ?_)
      refine j_icmp_geS (q := 28) (tgt := 53) hx (dc kX4_atLeast_0 15 rfl) (by decide) rfl ?_ ?_
      · refine j_exit ?_
        refine j_iconst (q := 54) (v := (0 : Int32)) hx (dc kX4_atLeast_0 27 rfl) (by decide) rfl ?_
        refine j_istore (q := 56) (i := 4) (l2 := [(0, vR x.2.2.2 x0), (1, .int x1), (2, vR x.2.2.2 x2), (3, .int x3)]) hx (dc kX4_atLeast_0 28 rfl) (hn 4 (by decide)) [0, 1, 2, 3] rfl ⟨⟨show (0 : Nat) ≠ 4 by decide, Or.inl (show (0 : Nat) + 1 ≠ 4 by decide)⟩, ⟨⟨show (1 : Nat) ≠ 4 by decide, Or.inl (show (1 : Nat) + 1 ≠ 4 by decide)⟩, ⟨⟨show (2 : Nat) ≠ 4 by decide, Or.inl (show (2 : Nat) + 1 ≠ 4 by decide)⟩, ⟨⟨show (3 : Nat) ≠ 4 by decide, Or.inr rfl⟩, trivial⟩⟩⟩⟩ rfl ?_
        exact j_sub [1, 2, 3, 4, 0] rfl (hb56 x0 x1 x2 x3 (0 : Int32) h)
      · refine j_aload_n (q := 29) hx (dc kX4_atLeast_0 16 rfl) rfl 0 rfl rfl ?_
        refine w_gR (q := 32) hx (dc kX4_atLeast_0 17 rfl) ff_X4_2 lk_X4_18 rfl (fun v15 => ?_)
        refine j_iload (q := 34) hx (dc kX4_atLeast_0 18 rfl) 4 rfl rfl ?_
        refine j_iload (q := 36) hx (dc kX4_atLeast_0 19 rfl) 4 rfl rfl ?_
        refine j_if_neS (q := 39) (tgt := 45) hx (dc kX4_atLeast_0 20 rfl) (by decide) rfl ?_ ?_
        · refine j_lconst (q := 46) (v := (0 : Int64)) hx (dc kX4_atLeast_0 23 rfl) (by decide) rfl ?_
          exact hb46 x0 x1 x2 x3 x4 v15 x4 (0 : Int64) h
        · refine j_ldc2 (q := 42) hx kl_X4_89 (dc kX4_atLeast_0 21 rfl) rfl ?_
          refine j_goto (q := 46) hx (dc kX4_atLeast_0 22 rfl) (by decide) ?_
          exact hb46 x0 x1 x2 x3 x4 v15 x4 (-1 : Int64) h
    exact j_loop (S := (Int32 × Hp)) (lvf := fun s => [(0, vR x.2.2.2 x0), (1, .int x1), (2, vR x.2.2.2 x2), (3, .int x3), (4, .int s.1)]) (hpf := fun s => s.2) (f := (fun s : (Int32 × Hp) => mX4_atLeast_l18f x0 x1 x2 x3 s.1 s.2)) (fun s => hB s.1 s.2) (x4, h)
  unfold mX4_atLeast
  refine J.ckd fun hck => ?_
  refine j_iload_n (q := 1) hx (dc kX4_atLeast_0 0 rfl) rfl 1 rfl rfl ?_
  refine j_if_gt (q := 4) (tgt := 8) hx (dc kX4_atLeast_0 1 rfl) (by decide) Iff.rfl rfl ?_ ?_
  · refine j_iload_n (q := 9) hx (dc kX4_atLeast_0 4 rfl) rfl 1 rfl rfl ?_
    refine j_iload_n (q := 10) hx (dc kX4_atLeast_0 5 rfl) rfl 3 rfl rfl ?_
    refine j_icmp_leS (q := 13) (tgt := 15) hx (dc kX4_atLeast_0 6 rfl) (by decide) rfl ?_ ?_
    · refine j_iconst (q := 16) (v := (0 : Int32)) hx (dc kX4_atLeast_0 9 rfl) (by decide) rfl ?_
      refine j_istore (q := 18) (i := 4) (l2 := [(0, vR x.2.2.2 x0), (1, .int x1), (2, vR x.2.2.2 x2), (3, .int x3)]) hx (dc kX4_atLeast_0 10 rfl) (hn 4 (by decide)) [0, 1, 2, 3] rfl ⟨⟨show (0 : Nat) ≠ 4 by decide, Or.inl (show (0 : Nat) + 1 ≠ 4 by decide)⟩, ⟨⟨show (1 : Nat) ≠ 4 by decide, Or.inl (show (1 : Nat) + 1 ≠ 4 by decide)⟩, ⟨⟨show (2 : Nat) ≠ 4 by decide, Or.inl (show (2 : Nat) + 1 ≠ 4 by decide)⟩, ⟨⟨show (3 : Nat) ≠ 4 by decide, Or.inr rfl⟩, trivial⟩⟩⟩⟩ rfl ?_
      exact j_sub [1, 2, 3, 4, 0] rfl (hb18 x0 x1 x2 x3 (0 : Int32) h)
    · refine j_lconst (q := 14) (v := (0 : Int64)) hx (dc kX4_atLeast_0 7 rfl) (by decide) rfl ?_
      exact r_lW hx hR (dc kX4_atLeast_0 8 rfl)
  · refine j_ldc2 (q := 7) hx kl_X4_89 (dc kX4_atLeast_0 2 rfl) rfl ?_
    exact r_lW hx hR (dc kX4_atLeast_0 3 rfl)

set_option maxHeartbeats 4000000 in
set_option maxRecDepth 100000 in
theorem sX4_run (l : Launch) (w : Wd) (x0 : Nat) (x1 : Nat) (x2 : Int32) (x3 : Int32) (h : Hp) (u : Hp) (hK : mX4_run x0 x1 x2 x3 h = some u) : M1 l w mi_X4_run 3 [vR w x0, vR w x1, .int x2, .int x3] h u (none) := by
  refine M1.of (own := RX4) (T := fun _ r => r = u) hK (by decide +kernel) rfl (by first | (simp only [lg_lenR, lg_lenI, lg_lenL, lg_len0]; decide) | decide) (fun x hx hnl hhf hl hw hret hnm hQ h0e => ⟨?_, rfl⟩)
  subst hw
  subst hl
  have hR : Rt x h u (none) (none) := ⟨h0e, hhf, hret, hQ⟩
  have hn : ∀ i, i < 8 → i < x.2.2.1.1.1 := fun i hi => by rw [hnl]; exact hi
  have e0 : lv_args 0 [vR x.2.2.2 x0, vR x.2.2.2 x1, .int x2, .int x3] = [(0, vR x.2.2.2 x0), (1, vR x.2.2.2 x1), (2, .int x2), (3, .int x3)] := by simp only [lv_argsR, lv_argsI, lv_argsL, lv_args0]
  rw [e0]
  have hb20 : ∀ (x0 : Nat) (x1 : Nat) (x3 : Int32) (x4 : Int32) (h : Hp), J x 20 [(0, vR x.2.2.2 x0), (1, vR x.2.2.2 x1), (3, .int x3), (4, .int x4)] [] h (mX4_run_l20 x0 x1 x3 x4 h) (fun r => r = u) := by
    intro x0 x1 x3 x4 h
    have hB : ∀ (x4 : Int32) (h : Hp), J x 20 [(0, vR x.2.2.2 x0), (1, vR x.2.2.2 x1), (3, .int x3), (4, .int x4)] [] h (mX4_run_l20f x0 x1 x3 x4 h) (TLo (S := (Int32 × Hp)) x 20 (fun s => [(0, vR x.2.2.2 x0), (1, vR x.2.2.2 x1), (3, .int x3), (4, .int s.1)]) [] (fun s => s.2) (fun r => r = u)) := by
      intro x4 h
      have hb264 : ∀ (x0 : Nat) (x1 : Nat) (x3 : Int32) (x4 : Int32) (h : Hp), J x 264 [(0, vR x.2.2.2 x0), (1, vR x.2.2.2 x1), (3, .int x3), (4, .int x4)] [] h (mX4_run_b264 x0 x1 x3 x4 h) (TLo (S := (Int32 × Hp)) x 20 (fun s => [(0, vR x.2.2.2 x0), (1, vR x.2.2.2 x1), (3, .int x3), (4, .int s.1)]) [] (fun s => s.2) (fun r => r = u)) := by
        intro x0 x1 x3 x4 h
        unfold mX4_run_b264
        refine j_iinc (q := 267) (l2 := [(0, vR x.2.2.2 x0), (1, vR x.2.2.2 x1), (3, .int x3)]) hx (dc kX4_run_2 17 rfl) 3 rfl (v := (1 : Int32)) (by decide) (hn 4 (by decide)) [0, 1, 2] rfl ⟨⟨show (0 : Nat) ≠ 4 by decide, Or.inl (show (0 : Nat) + 1 ≠ 4 by decide)⟩, ⟨⟨show (1 : Nat) ≠ 4 by decide, Or.inl (show (1 : Nat) + 1 ≠ 4 by decide)⟩, ⟨⟨show (3 : Nat) ≠ 4 by decide, Or.inr rfl⟩, trivial⟩⟩⟩ rfl ?_
        refine j_goto (q := 20) hx (dc kX4_run_2 18 rfl) (by decide) ?_
        exact j_back [1, 2, 3, 0] ((x4 + (1 : Int32)), h) rfl rfl
      unfold mX4_run_l20f
      refine j_iload (q := 22) hx (dc kX4_run_0 13 rfl) 3 rfl rfl ?_
      refine j_if_lt (q := 25) (tgt := 270) hx (dc kX4_run_0 14 rfl) (by decide) Iff.rfl rfl ?_ ?_
      · refine j_exit ?_
        exact r_vW hx hR (dc kX4_run_2 19 rfl)
      · refine j_iload (q := 27) hx (dc kX4_run_0 15 rfl) 3 rfl rfl ?_
        refine j_iload_n (q := 28) hx (dc kX4_run_0 16 rfl) rfl 2 rfl rfl ?_
        refine j_icmp_geS (q := 31) (tgt := 270) hx (dc kX4_run_0 17 rfl) (by decide) rfl ?_ ?_
        · refine j_exit ?_
          exact r_vW hx hR (dc kX4_run_2 19 rfl)
        · refine j_iload (q := 33) hx (dc kX4_run_0 18 rfl) 3 rfl rfl ?_
          refine j_aload_n (q := 34) hx (dc kX4_run_0 19 rfl) rfl 1 rfl rfl ?_
          refine j_alen (q := 35) hx (dc kX4_run_0 20 rfl) rfl (fun v5 => ?_)
          refine j_icmp_geS (q := 38) (tgt := 270) hx (dc kX4_run_0 21 rfl) (by decide) rfl ?_ ?_
          · refine j_exit ?_
            exact r_vW hx hR (dc kX4_run_2 19 rfl)
          · refine j_aload_n (q := 39) hx (dc kX4_run_0 22 rfl) rfl 1 rfl rfl ?_
            refine j_iload (q := 41) hx (dc kX4_run_0 23 rfl) 3 rfl rfl ?_
            refine j_ldI (q := 42) hx (dc kX4_run_0 24 rfl) rfl (fun v6 => ?_)
            refine j_istore (q := 44) (i := 5) (l2 := [(0, vR x.2.2.2 x0), (1, vR x.2.2.2 x1), (3, .int x3), (4, .int x4)]) hx (dc kX4_run_0 25 rfl) (hn 5 (by decide)) [0, 1, 2, 3] rfl ⟨⟨show (0 : Nat) ≠ 5 by decide, Or.inl (show (0 : Nat) + 1 ≠ 5 by decide)⟩, ⟨⟨show (1 : Nat) ≠ 5 by decide, Or.inl (show (1 : Nat) + 1 ≠ 5 by decide)⟩, ⟨⟨show (3 : Nat) ≠ 5 by decide, Or.inl (show (3 : Nat) + 1 ≠ 5 by decide)⟩, ⟨⟨show (4 : Nat) ≠ 5 by decide, Or.inr rfl⟩, trivial⟩⟩⟩⟩ rfl ?_
            refine j_iload (q := 46) hx (dc kX4_run_0 26 rfl) 0 rfl rfl ?_
            refine j_bipush (q := 48) (v := (8 : Int32)) hx (dc kX4_run_0 27 rfl) (by decide) rfl ?_
            refine j_icmp_geS (q := 51) (tgt := 71) hx (dc kX4_run_0 28 rfl) (by decide) rfl ?_ ?_
            · refine j_iload (q := 73) hx (dc kX4_run_0 39 rfl) 0 rfl rfl ?_
              refine j_bipush (q := 75) (v := (8 : Int32)) hx (dc kX4_run_0 40 rfl) (by decide) rfl ?_
              refine j_icmp_neS (q := 78) (tgt := 104) hx (dc kX4_run_0 41 rfl) (by decide) rfl ?_ ?_
              · refine j_iload (q := 106) hx (dc kX4_run_0 56 rfl) 0 rfl rfl ?_
                refine j_bipush (q := 108) (v := (9 : Int32)) hx (dc kX4_run_0 57 rfl) (by decide) rfl ?_
                refine j_icmp_neS (q := 111) (tgt := 157) hx (dc kX4_run_0 58 rfl) (by decide) rfl ?_ ?_
                · refine j_iload (q := 159) hx (dc kX4_run_1 21 rfl) 0 rfl rfl ?_
                  refine j_bipush (q := 161) (v := (10 : Int32)) hx (dc kX4_run_1 22 rfl) (by decide) rfl ?_
                  refine j_icmp_neS (q := 164) (tgt := 210) hx (dc kX4_run_1 23 rfl) (by decide) rfl ?_ ?_
                  · refine j_iload (q := 212) hx (dc kX4_run_1 50 rfl) 0 rfl rfl ?_
                    refine j_bipush (q := 214) (v := (16 : Int32)) hx (dc kX4_run_1 51 rfl) (by decide) rfl ?_
                    refine j_isub (q := 215) hx (dc kX4_run_1 52 rfl) rfl ?_
                    refine j_iconst (q := 216) (v := (3 : Int32)) hx (dc kX4_run_1 53 rfl) (by decide) rfl ?_
                    refine j_ishr (q := 217) hx (dc kX4_run_1 54 rfl) rfl ?_
                    refine j_istore (q := 219) (i := 6) (l2 := [(5, .int v6), (0, vR x.2.2.2 x0), (1, vR x.2.2.2 x1), (3, .int x3), (4, .int x4)]) hx (dc kX4_run_1 55 rfl) (hn 6 (by decide)) [0, 1, 2, 3, 4] rfl ⟨⟨show (5 : Nat) ≠ 6 by decide, Or.inr rfl⟩, ⟨⟨show (0 : Nat) ≠ 6 by decide, Or.inl (show (0 : Nat) + 1 ≠ 6 by decide)⟩, ⟨⟨show (1 : Nat) ≠ 6 by decide, Or.inl (show (1 : Nat) + 1 ≠ 6 by decide)⟩, ⟨⟨show (3 : Nat) ≠ 6 by decide, Or.inl (show (3 : Nat) + 1 ≠ 6 by decide)⟩, ⟨⟨show (4 : Nat) ≠ 6 by decide, Or.inl (show (4 : Nat) + 1 ≠ 6 by decide)⟩, trivial⟩⟩⟩⟩⟩ rfl ?_
                    refine j_iload (q := 221) hx (dc kX4_run_1 56 rfl) 1 rfl rfl ?_
                    refine j_bipush (q := 223) (v := (16 : Int32)) hx (dc kX4_run_1 57 rfl) (by decide) rfl ?_
                    refine j_isub (q := 224) hx (dc kX4_run_1 58 rfl) rfl ?_
                    refine j_bipush (q := 226) (v := (7 : Int32)) hx (dc kX4_run_1 59 rfl) (by decide) rfl ?_
                    refine j_iand (q := 227) hx (dc kX4_run_1 60 rfl) rfl ?_
                    refine j_istore (q := 229) (i := 7) (l2 := [(6, .int ((v6 - (16 : Int32)) >>> ((3 : Int32) &&& 31))), (0, vR x.2.2.2 x0), (1, vR x.2.2.2 x1), (3, .int x3), (4, .int x4)]) hx (dc kX4_run_1 61 rfl) (hn 7 (by decide)) [0, 2, 3, 4, 5] rfl ⟨⟨show (6 : Nat) ≠ 7 by decide, Or.inr rfl⟩, ⟨⟨show (0 : Nat) ≠ 7 by decide, Or.inl (show (0 : Nat) + 1 ≠ 7 by decide)⟩, ⟨⟨show (1 : Nat) ≠ 7 by decide, Or.inl (show (1 : Nat) + 1 ≠ 7 by decide)⟩, ⟨⟨show (3 : Nat) ≠ 7 by decide, Or.inl (show (3 : Nat) + 1 ≠ 7 by decide)⟩, ⟨⟨show (4 : Nat) ≠ 7 by decide, Or.inl (show (4 : Nat) + 1 ≠ 7 by decide)⟩, trivial⟩⟩⟩⟩⟩ rfl ?_
                    refine j_aload_n (q := 230) hx (dc kX4_run_1 62 rfl) rfl 2 rfl rfl ?_
                    refine j_iload (q := 232) hx (dc kX4_run_1 63 rfl) 0 rfl rfl ?_
                    refine j_aload_n (q := 233) hx (dc kX4_run_2 0 rfl) rfl 2 rfl rfl ?_
                    refine j_iload (q := 235) hx (dc kX4_run_2 1 rfl) 1 rfl rfl ?_
                    refine j_aload_n (q := 236) hx (dc kX4_run_2 2 rfl) rfl 2 rfl rfl ?_
                    refine w_gR (q := 239) hx (dc kX4_run_2 3 rfl) ff_X4_0 lk_X4_11 rfl (fun v7 => ?_)
                    refine j_iload (q := 241) hx (dc kX4_run_2 4 rfl) 0 rfl rfl ?_
                    refine w_cVJW (q := 244) (As := [.int ((v6 - (16 : Int32)) >>> ((3 : Int32) &&& 31)), vR x.2.2.2 v7, .int ((v6 - (16 : Int32)) &&& (7 : Int32))]) (st := [.int ((v6 - (16 : Int32)) &&& (7 : Int32)), vR x.2.2.2 x0]) hx (dc kX4_run_2 5 rfl) cf4 (by decide) rfl (cI _ my_X4_atLeast lm_X4_81 (by decide)) vs_X4_atLeast rfl (fun u hu => sX4_atLeast _ _ _ _ _ _ _ _ hu) (fun e => ite_ne (by unfold mX4_atLeast at e; exact e)) (sum_le (sum_I (sum_R sum_nil)) (by decide)) rfl (fun v8 h9 => ?_)
                    refine j_aload_n (q := 245) hx (dc kX4_run_2 6 rfl) rfl 2 rfl rfl ?_
                    refine j_iload (q := 247) hx (dc kX4_run_2 7 rfl) 0 rfl rfl ?_
                    refine j_iload (q := 249) hx (dc kX4_run_2 8 rfl) 1 rfl rfl ?_
                    refine j_isub (q := 250) hx (dc kX4_run_2 9 rfl) rfl ?_
                    refine j_iconst (q := 251) (v := (1 : Int32)) hx (dc kX4_run_2 10 rfl) (by decide) rfl ?_
                    refine j_iadd (q := 252) hx (dc kX4_run_2 11 rfl) rfl ?_
                    refine j_aload_n (q := 253) hx (dc kX4_run_2 12 rfl) rfl 2 rfl rfl ?_
                    refine w_gR (q := 256) hx (dc kX4_run_2 13 rfl) ff_X4_1 lk_X4_15 rfl (fun v10 => ?_)
                    refine j_iload (q := 258) hx (dc kX4_run_2 14 rfl) 0 rfl rfl ?_
                    refine w_cVJW (q := 261) (As := [.int ((((v6 - (16 : Int32)) &&& (7 : Int32)) - ((v6 - (16 : Int32)) >>> ((3 : Int32) &&& 31))) + (1 : Int32)), vR x.2.2.2 v10, .int ((v6 - (16 : Int32)) &&& (7 : Int32))]) (st := [.long v8, .int ((v6 - (16 : Int32)) &&& (7 : Int32)), vR x.2.2.2 x0]) hx (dc kX4_run_2 15 rfl) cf4 (by decide) rfl (cI _ my_X4_atLeast lm_X4_81 (by decide)) vs_X4_atLeast rfl (fun u hu => sX4_atLeast _ _ _ _ _ _ _ _ hu) (fun e => ite_ne (by unfold mX4_atLeast at e; exact e)) (sum_le (sum_J (sum_I (sum_R sum_nil))) (by decide)) rfl (fun v11 h12 => ?_)
                    refine w_cVVW (q := 264) (As := [.int ((v6 - (16 : Int32)) &&& (7 : Int32)), .long v8, .long v11]) (st := []) hx (dc kX4_run_2 16 rfl) cf4 (by decide) rfl (cI _ my_X4_replace lm_X4_67 (by decide)) vs_X4_replace rfl (fun u hu => sX4_replace _ _ _ _ _ _ _ _ hu) (fun e => ite_ne (by unfold mX4_replace at e; exact e)) (Nat.zero_le _) rfl (fun h14 => ?_)
                    exact j_sub [2, 3, 4, 5] rfl (hb264 x0 x1 x3 x4 h14)
                  · refine j_aload_n (q := 165) hx (dc kX4_run_1 24 rfl) rfl 1 rfl rfl ?_
                    refine j_iconst (q := 166) (v := (2 : Int32)) hx (dc kX4_run_1 25 rfl) (by decide) rfl ?_
                    refine j_aload_n (q := 167) hx (dc kX4_run_1 26 rfl) rfl 1 rfl rfl ?_
                    refine j_aload_n (q := 168) hx (dc kX4_run_1 27 rfl) rfl 1 rfl rfl ?_
                    refine w_gR (q := 171) hx (dc kX4_run_1 28 rfl) ff_X4_0 lk_X4_11 rfl (fun v15 => ?_)
                    refine j_iconst (q := 172) (v := (1 : Int32)) hx (dc kX4_run_1 29 rfl) (by decide) rfl ?_
                    refine w_cVJR (q := 175) (As := [vR x.2.2.2 v15, .int (1 : Int32)]) (st := [.int (2 : Int32), vR x.2.2.2 x0]) hx (dc kX4_run_1 30 rfl) cf4 (by decide) rfl (cI _ my_X4_top lm_X4_78 (by decide)) vs_X4_top rfl (fun u hu => sX4_top _ _ _ _ _ _ _ hu) (fun e => ite_ne (by unfold mX4_top at e; exact e)) (sum_le (sum_I (sum_R sum_nil)) (by decide)) rfl (fun v16 => ?_)
                    refine j_aload_n (q := 176) hx (dc kX4_run_1 31 rfl) rfl 1 rfl rfl ?_
                    refine j_aload_n (q := 177) hx (dc kX4_run_1 32 rfl) rfl 1 rfl rfl ?_
                    refine w_gR (q := 180) hx (dc kX4_run_1 33 rfl) ff_X4_0 lk_X4_11 rfl (fun v18 => ?_)
                    refine j_iconst (q := 181) (v := (0 : Int32)) hx (dc kX4_run_1 34 rfl) (by decide) rfl ?_
                    refine w_cVJR (q := 184) (As := [vR x.2.2.2 v18, .int (0 : Int32)]) (st := [.long v16, .int (2 : Int32), vR x.2.2.2 x0]) hx (dc kX4_run_1 35 rfl) cf4 (by decide) rfl (cI _ my_X4_top lm_X4_78 (by decide)) vs_X4_top rfl (fun u hu => sX4_top _ _ _ _ _ _ _ hu) (fun e => ite_ne (by unfold mX4_top at e; exact e)) (sum_le (sum_J (sum_I (sum_R sum_nil))) (by decide)) rfl (fun v19 => ?_)
                    refine j_lor (q := 185) hx (dc kX4_run_1 36 rfl) rfl ?_
                    refine j_aload_n (q := 186) hx (dc kX4_run_1 37 rfl) rfl 1 rfl rfl ?_
                    refine j_aload_n (q := 187) hx (dc kX4_run_1 38 rfl) rfl 1 rfl rfl ?_
                    refine w_gR (q := 190) hx (dc kX4_run_1 39 rfl) ff_X4_1 lk_X4_15 rfl (fun v21 => ?_)
                    refine j_iconst (q := 191) (v := (1 : Int32)) hx (dc kX4_run_1 40 rfl) (by decide) rfl ?_
                    refine w_cVJR (q := 194) (As := [vR x.2.2.2 v21, .int (1 : Int32)]) (st := [.long (v16 ||| v19), .int (2 : Int32), vR x.2.2.2 x0]) hx (dc kX4_run_1 41 rfl) cf4 (by decide) rfl (cI _ my_X4_top lm_X4_78 (by decide)) vs_X4_top rfl (fun u hu => sX4_top _ _ _ _ _ _ _ hu) (fun e => ite_ne (by unfold mX4_top at e; exact e)) (sum_le (sum_J (sum_I (sum_R sum_nil))) (by decide)) rfl (fun v22 => ?_)
                    refine j_aload_n (q := 195) hx (dc kX4_run_1 42 rfl) rfl 1 rfl rfl ?_
                    refine j_aload_n (q := 196) hx (dc kX4_run_1 43 rfl) rfl 1 rfl rfl ?_
                    refine w_gR (q := 199) hx (dc kX4_run_1 44 rfl) ff_X4_1 lk_X4_15 rfl (fun v24 => ?_)
                    refine j_iconst (q := 200) (v := (0 : Int32)) hx (dc kX4_run_1 45 rfl) (by decide) rfl ?_
                    refine w_cVJR (q := 203) (As := [vR x.2.2.2 v24, .int (0 : Int32)]) (st := [.long v22, .long (v16 ||| v19), .int (2 : Int32), vR x.2.2.2 x0]) hx (dc kX4_run_1 46 rfl) cf4 (by decide) rfl (cI _ my_X4_top lm_X4_78 (by decide)) vs_X4_top rfl (fun u hu => sX4_top _ _ _ _ _ _ _ hu) (fun e => ite_ne (by unfold mX4_top at e; exact e)) (sum_le (sum_J (sum_J (sum_I (sum_R sum_nil)))) (by decide)) rfl (fun v25 => ?_)
                    refine j_land (q := 204) hx (dc kX4_run_1 47 rfl) rfl ?_
                    refine w_cVVW (q := 207) (As := [.int (2 : Int32), .long (v16 ||| v19), .long (v22 &&& v25)]) (st := []) hx (dc kX4_run_1 48 rfl) cf4 (by decide) rfl (cI _ my_X4_replace lm_X4_67 (by decide)) vs_X4_replace rfl (fun u hu => sX4_replace _ _ _ _ _ _ _ _ hu) (fun e => ite_ne (by unfold mX4_replace at e; exact e)) (Nat.zero_le _) rfl (fun h28 => ?_)
                    refine j_goto (q := 264) hx (dc kX4_run_1 49 rfl) (by decide) ?_
                    exact j_sub [1, 2, 3, 4] rfl (hb264 x0 x1 x3 x4 h28)
                · refine j_aload_n (q := 112) hx (dc kX4_run_0 59 rfl) rfl 1 rfl rfl ?_
                  refine j_iconst (q := 113) (v := (2 : Int32)) hx (dc kX4_run_0 60 rfl) (by decide) rfl ?_
                  refine j_aload_n (q := 114) hx (dc kX4_run_0 61 rfl) rfl 1 rfl rfl ?_
                  refine j_aload_n (q := 115) hx (dc kX4_run_0 62 rfl) rfl 1 rfl rfl ?_
                  refine w_gR (q := 118) hx (dc kX4_run_0 63 rfl) ff_X4_0 lk_X4_11 rfl (fun v29 => ?_)
                  refine j_iconst (q := 119) (v := (1 : Int32)) hx (dc kX4_run_1 0 rfl) (by decide) rfl ?_
                  refine w_cVJR (q := 122) (As := [vR x.2.2.2 v29, .int (1 : Int32)]) (st := [.int (2 : Int32), vR x.2.2.2 x0]) hx (dc kX4_run_1 1 rfl) cf4 (by decide) rfl (cI _ my_X4_top lm_X4_78 (by decide)) vs_X4_top rfl (fun u hu => sX4_top _ _ _ _ _ _ _ hu) (fun e => ite_ne (by unfold mX4_top at e; exact e)) (sum_le (sum_I (sum_R sum_nil)) (by decide)) rfl (fun v30 => ?_)
                  refine j_aload_n (q := 123) hx (dc kX4_run_1 2 rfl) rfl 1 rfl rfl ?_
                  refine j_aload_n (q := 124) hx (dc kX4_run_1 3 rfl) rfl 1 rfl rfl ?_
                  refine w_gR (q := 127) hx (dc kX4_run_1 4 rfl) ff_X4_0 lk_X4_11 rfl (fun v32 => ?_)
                  refine j_iconst (q := 128) (v := (0 : Int32)) hx (dc kX4_run_1 5 rfl) (by decide) rfl ?_
                  refine w_cVJR (q := 131) (As := [vR x.2.2.2 v32, .int (0 : Int32)]) (st := [.long v30, .int (2 : Int32), vR x.2.2.2 x0]) hx (dc kX4_run_1 6 rfl) cf4 (by decide) rfl (cI _ my_X4_top lm_X4_78 (by decide)) vs_X4_top rfl (fun u hu => sX4_top _ _ _ _ _ _ _ hu) (fun e => ite_ne (by unfold mX4_top at e; exact e)) (sum_le (sum_J (sum_I (sum_R sum_nil))) (by decide)) rfl (fun v33 => ?_)
                  refine j_land (q := 132) hx (dc kX4_run_1 7 rfl) rfl ?_
                  refine j_aload_n (q := 133) hx (dc kX4_run_1 8 rfl) rfl 1 rfl rfl ?_
                  refine j_aload_n (q := 134) hx (dc kX4_run_1 9 rfl) rfl 1 rfl rfl ?_
                  refine w_gR (q := 137) hx (dc kX4_run_1 10 rfl) ff_X4_1 lk_X4_15 rfl (fun v35 => ?_)
                  refine j_iconst (q := 138) (v := (1 : Int32)) hx (dc kX4_run_1 11 rfl) (by decide) rfl ?_
                  refine w_cVJR (q := 141) (As := [vR x.2.2.2 v35, .int (1 : Int32)]) (st := [.long (v30 &&& v33), .int (2 : Int32), vR x.2.2.2 x0]) hx (dc kX4_run_1 12 rfl) cf4 (by decide) rfl (cI _ my_X4_top lm_X4_78 (by decide)) vs_X4_top rfl (fun u hu => sX4_top _ _ _ _ _ _ _ hu) (fun e => ite_ne (by unfold mX4_top at e; exact e)) (sum_le (sum_J (sum_I (sum_R sum_nil))) (by decide)) rfl (fun v36 => ?_)
                  refine j_aload_n (q := 142) hx (dc kX4_run_1 13 rfl) rfl 1 rfl rfl ?_
                  refine j_aload_n (q := 143) hx (dc kX4_run_1 14 rfl) rfl 1 rfl rfl ?_
                  refine w_gR (q := 146) hx (dc kX4_run_1 15 rfl) ff_X4_1 lk_X4_15 rfl (fun v38 => ?_)
                  refine j_iconst (q := 147) (v := (0 : Int32)) hx (dc kX4_run_1 16 rfl) (by decide) rfl ?_
                  refine w_cVJR (q := 150) (As := [vR x.2.2.2 v38, .int (0 : Int32)]) (st := [.long v36, .long (v30 &&& v33), .int (2 : Int32), vR x.2.2.2 x0]) hx (dc kX4_run_1 17 rfl) cf4 (by decide) rfl (cI _ my_X4_top lm_X4_78 (by decide)) vs_X4_top rfl (fun u hu => sX4_top _ _ _ _ _ _ _ hu) (fun e => ite_ne (by unfold mX4_top at e; exact e)) (sum_le (sum_J (sum_J (sum_I (sum_R sum_nil)))) (by decide)) rfl (fun v39 => ?_)
                  refine j_lor (q := 151) hx (dc kX4_run_1 18 rfl) rfl ?_
                  refine w_cVVW (q := 154) (As := [.int (2 : Int32), .long (v30 &&& v33), .long (v36 ||| v39)]) (st := []) hx (dc kX4_run_1 19 rfl) cf4 (by decide) rfl (cI _ my_X4_replace lm_X4_67 (by decide)) vs_X4_replace rfl (fun u hu => sX4_replace _ _ _ _ _ _ _ _ hu) (fun e => ite_ne (by unfold mX4_replace at e; exact e)) (Nat.zero_le _) rfl (fun h42 => ?_)
                  refine j_goto (q := 264) hx (dc kX4_run_1 20 rfl) (by decide) ?_
                  exact j_sub [1, 2, 3, 4] rfl (hb264 x0 x1 x3 x4 h42)
              · refine j_aload_n (q := 79) hx (dc kX4_run_0 42 rfl) rfl 1 rfl rfl ?_
                refine j_iconst (q := 80) (v := (1 : Int32)) hx (dc kX4_run_0 43 rfl) (by decide) rfl ?_
                refine j_aload_n (q := 81) hx (dc kX4_run_0 44 rfl) rfl 1 rfl rfl ?_
                refine j_aload_n (q := 82) hx (dc kX4_run_0 45 rfl) rfl 1 rfl rfl ?_
                refine w_gR (q := 85) hx (dc kX4_run_0 46 rfl) ff_X4_1 lk_X4_15 rfl (fun v43 => ?_)
                refine j_iconst (q := 86) (v := (0 : Int32)) hx (dc kX4_run_0 47 rfl) (by decide) rfl ?_
                refine w_cVJR (q := 89) (As := [vR x.2.2.2 v43, .int (0 : Int32)]) (st := [.int (1 : Int32), vR x.2.2.2 x0]) hx (dc kX4_run_0 48 rfl) cf4 (by decide) rfl (cI _ my_X4_top lm_X4_78 (by decide)) vs_X4_top rfl (fun u hu => sX4_top _ _ _ _ _ _ _ hu) (fun e => ite_ne (by unfold mX4_top at e; exact e)) (sum_le (sum_I (sum_R sum_nil)) (by decide)) rfl (fun v44 => ?_)
                refine j_aload_n (q := 90) hx (dc kX4_run_0 49 rfl) rfl 1 rfl rfl ?_
                refine j_aload_n (q := 91) hx (dc kX4_run_0 50 rfl) rfl 1 rfl rfl ?_
                refine w_gR (q := 94) hx (dc kX4_run_0 51 rfl) ff_X4_0 lk_X4_11 rfl (fun v46 => ?_)
                refine j_iconst (q := 95) (v := (0 : Int32)) hx (dc kX4_run_0 52 rfl) (by decide) rfl ?_
                refine w_cVJR (q := 98) (As := [vR x.2.2.2 v46, .int (0 : Int32)]) (st := [.long v44, .int (1 : Int32), vR x.2.2.2 x0]) hx (dc kX4_run_0 53 rfl) cf4 (by decide) rfl (cI _ my_X4_top lm_X4_78 (by decide)) vs_X4_top rfl (fun u hu => sX4_top _ _ _ _ _ _ _ hu) (fun e => ite_ne (by unfold mX4_top at e; exact e)) (sum_le (sum_J (sum_I (sum_R sum_nil))) (by decide)) rfl (fun v47 => ?_)
                refine w_cVVW (q := 101) (As := [.int (1 : Int32), .long v44, .long v47]) (st := []) hx (dc kX4_run_0 54 rfl) cf4 (by decide) rfl (cI _ my_X4_replace lm_X4_67 (by decide)) vs_X4_replace rfl (fun u hu => sX4_replace _ _ _ _ _ _ _ _ hu) (fun e => ite_ne (by unfold mX4_replace at e; exact e)) (Nat.zero_le _) rfl (fun h50 => ?_)
                refine j_goto (q := 264) hx (dc kX4_run_0 55 rfl) (by decide) ?_
                exact j_sub [1, 2, 3, 4] rfl (hb264 x0 x1 x3 x4 h50)
            · refine j_aload_n (q := 52) hx (dc kX4_run_0 29 rfl) rfl 1 rfl rfl ?_
              refine j_iconst (q := 53) (v := (0 : Int32)) hx (dc kX4_run_0 30 rfl) (by decide) rfl ?_
              refine j_aload_n (q := 54) hx (dc kX4_run_0 31 rfl) rfl 1 rfl rfl ?_
              refine j_iload (q := 56) hx (dc kX4_run_0 32 rfl) 0 rfl rfl ?_
              refine w_cVJR (q := 59) (As := [.int v6]) (st := [.int (0 : Int32), vR x.2.2.2 x0]) hx (dc kX4_run_0 33 rfl) cf4 (by decide) rfl (cI _ my_X4_leafYes lm_X4_71 (by decide)) vs_X4_leafYes rfl (fun u hu => sX4_leafYes _ _ _ _ _ _ hu) (fun e => ite_ne (by unfold mX4_leafYes at e; exact e)) (sum_le (sum_I (sum_R sum_nil)) (by decide)) rfl (fun v51 => ?_)
              refine j_aload_n (q := 60) hx (dc kX4_run_0 34 rfl) rfl 1 rfl rfl ?_
              refine j_iload (q := 62) hx (dc kX4_run_0 35 rfl) 0 rfl rfl ?_
              refine w_cVJR (q := 65) (As := [.int v6]) (st := [.long v51, .int (0 : Int32), vR x.2.2.2 x0]) hx (dc kX4_run_0 36 rfl) cf4 (by decide) rfl (cI _ my_X4_leafNo lm_X4_75 (by decide)) vs_X4_leafNo rfl (fun u hu => sX4_leafNo _ _ _ _ _ _ hu) (fun e => ite_ne (by unfold mX4_leafNo at e; exact e)) (sum_le (sum_J (sum_I (sum_R sum_nil))) (by decide)) rfl (fun v53 => ?_)
              refine w_cVVW (q := 68) (As := [.int (0 : Int32), .long v51, .long v53]) (st := []) hx (dc kX4_run_0 37 rfl) cf4 (by decide) rfl (cI _ my_X4_replace lm_X4_67 (by decide)) vs_X4_replace rfl (fun u hu => sX4_replace _ _ _ _ _ _ _ _ hu) (fun e => ite_ne (by unfold mX4_replace at e; exact e)) (Nat.zero_le _) rfl (fun h56 => ?_)
              refine j_goto (q := 264) hx (dc kX4_run_0 38 rfl) (by decide) ?_
              exact j_sub [1, 2, 3, 4] rfl (hb264 x0 x1 x3 x4 h56)
    exact j_loop (S := (Int32 × Hp)) (lvf := fun s => [(0, vR x.2.2.2 x0), (1, vR x.2.2.2 x1), (3, .int x3), (4, .int s.1)]) (hpf := fun s => s.2) (f := (fun s : (Int32 × Hp) => mX4_run_l20f x0 x1 x3 s.1 s.2)) (fun s => hB s.1 s.2) (x4, h)
  unfold mX4_run
  refine J.ckd fun hck => ?_
  refine j_aload_n (q := 1) hx (dc kX4_run_0 0 rfl) rfl 0 rfl rfl ?_
  refine j_iconst (q := 2) (v := (0 : Int32)) hx (dc kX4_run_0 1 rfl) (by decide) rfl ?_
  refine w_sI (q := 5) hx (dc kX4_run_0 2 rfl) ff_X4_3 rfl lk_X4_64 (Or.inl rfl) rfl (fun h1 => ?_)
  refine j_aload_n (q := 6) hx (dc kX4_run_0 3 rfl) rfl 0 rfl rfl ?_
  refine j_iconst (q := 7) (v := (0 : Int32)) hx (dc kX4_run_0 4 rfl) (by decide) rfl ?_
  refine j_lconst (q := 8) (v := (0 : Int64)) hx (dc kX4_run_0 5 rfl) (by decide) rfl ?_
  refine j_lconst (q := 9) (v := (0 : Int64)) hx (dc kX4_run_0 6 rfl) (by decide) rfl ?_
  refine w_cVVW (q := 12) (As := [.int (0 : Int32), .long (0 : Int64), .long (0 : Int64)]) (st := []) hx (dc kX4_run_0 7 rfl) cf4 (by decide) rfl (cI _ my_X4_replace lm_X4_67 (by decide)) vs_X4_replace rfl (fun u hu => sX4_replace _ _ _ _ _ _ _ _ hu) (fun e => ite_ne (by unfold mX4_replace at e; exact e)) (Nat.zero_le _) rfl (fun h3 => ?_)
  refine j_aload_n (q := 13) hx (dc kX4_run_0 8 rfl) rfl 0 rfl rfl ?_
  refine j_iconst (q := 14) (v := (0 : Int32)) hx (dc kX4_run_0 9 rfl) (by decide) rfl ?_
  refine w_sI (q := 17) hx (dc kX4_run_0 10 rfl) ff_X4_3 rfl lk_X4_64 (Or.inl rfl) rfl (fun h4 => ?_)
  refine j_iload_n (q := 18) hx (dc kX4_run_0 11 rfl) rfl 2 rfl rfl ?_
  refine j_istore (q := 20) (i := 4) (l2 := [(0, vR x.2.2.2 x0), (1, vR x.2.2.2 x1), (3, .int x3)]) hx (dc kX4_run_0 12 rfl) (hn 4 (by decide)) [0, 1, 3] rfl ⟨⟨show (0 : Nat) ≠ 4 by decide, Or.inl (show (0 : Nat) + 1 ≠ 4 by decide)⟩, ⟨⟨show (1 : Nat) ≠ 4 by decide, Or.inl (show (1 : Nat) + 1 ≠ 4 by decide)⟩, ⟨⟨show (3 : Nat) ≠ 4 by decide, Or.inr rfl⟩, trivial⟩⟩⟩ rfl ?_
  exact j_sub [1, 2, 3, 0] rfl (hb20 x0 x1 x3 x2 h4)

set_option maxHeartbeats 4000000 in
set_option maxRecDepth 100000 in
theorem sX11_putLong (l : Launch) (w : Wd) (x0 : Nat) (x1 : Int32) (x2 : Int64) (h : Hp) (u : Hp) (hK : mX11_putLong x0 x1 x2 h = some u) : M1 l w mi_X11_putLong 1 [vR w x0, .int x1, .long x2] h u (none) := by
  refine M1.of (own := RX11) (T := fun _ r => r = u) hK (by decide +kernel) rfl (by first | (simp only [lg_lenR, lg_lenI, lg_lenL, lg_len0]; decide) | decide) (fun x hx hnl hhf hl hw hret hnm hQ h0e => ⟨?_, rfl⟩)
  subst hw
  subst hl
  have hR : Rt x h u (none) (none) := ⟨h0e, hhf, hret, hQ⟩
  have hn : ∀ i, i < 4 → i < x.2.2.1.1.1 := fun i hi => by rw [hnl]; exact hi
  have e0 : lv_args 0 [vR x.2.2.2 x0, .int x1, .long x2] = [(0, vR x.2.2.2 x0), (1, .int x1), (2, .long x2)] := by simp only [lv_argsR, lv_argsI, lv_argsL, lv_args0]
  rw [e0]
  unfold mX11_putLong
  refine j_iload_n (q := 1) hx (dc kX11_putLong_0 0 rfl) rfl 1 rfl rfl ?_
  refine j_if_lt (q := 4) (tgt := 14) hx (dc kX11_putLong_0 1 rfl) (by decide) Iff.rfl rfl ?_ ?_
  · exact r_vW hx hR (dc kX11_putLong_0 10 rfl)
  · refine j_iload_n (q := 5) hx (dc kX11_putLong_0 2 rfl) rfl 1 rfl rfl ?_
    refine j_aload_n (q := 6) hx (dc kX11_putLong_0 3 rfl) rfl 0 rfl rfl ?_
    refine j_alen (q := 7) hx (dc kX11_putLong_0 4 rfl) rfl (fun v1 => ?_)
    refine j_icmp_geS (q := 10) (tgt := 14) hx (dc kX11_putLong_0 5 rfl) (by decide) rfl ?_ ?_
    · exact r_vW hx hR (dc kX11_putLong_0 10 rfl)
    · refine j_aload_n (q := 11) hx (dc kX11_putLong_0 6 rfl) rfl 0 rfl rfl ?_
      refine j_iload_n (q := 12) hx (dc kX11_putLong_0 7 rfl) rfl 1 rfl rfl ?_
      refine j_lload_n (q := 13) hx (dc kX11_putLong_0 8 rfl) rfl 2 rfl rfl ?_
      refine w_stL (q := 14) hx (dc kX11_putLong_0 9 rfl) rfl (fun h2 => ?_)
      exact r_vW hx hR (dc kX11_putLong_0 10 rfl)

set_option maxHeartbeats 4000000 in
set_option maxRecDepth 100000 in
theorem sX4_tabulate (l : Launch) (w : Wd) (x0 : Nat) (x1 : Nat) (x2 : Int32) (x3 : Int32) (x4 : Nat) (h : Hp) (u : Hp) (hK : mX4_tabulate x0 x1 x2 x3 x4 h = some u) : M1 l w mi_X4_tabulate 4 [vR w x0, vR w x1, .int x2, .int x3, vR w x4] h u (none) := by
  refine M1.of (own := RX4) (T := fun _ r => r = u) hK (by decide +kernel) rfl (by first | (simp only [lg_lenR, lg_lenI, lg_lenL, lg_len0]; decide) | decide) (fun x hx hnl hhf hl hw hret hnm hQ h0e => ⟨?_, rfl⟩)
  subst hw
  subst hl
  have hR : Rt x h u (none) (none) := ⟨h0e, hhf, hret, hQ⟩
  have hn : ∀ i, i < 6 → i < x.2.2.1.1.1 := fun i hi => by rw [hnl]; exact hi
  have e0 : lv_args 0 [vR x.2.2.2 x0, vR x.2.2.2 x1, .int x2, .int x3, vR x.2.2.2 x4] = [(0, vR x.2.2.2 x0), (1, vR x.2.2.2 x1), (2, .int x2), (3, .int x3), (4, vR x.2.2.2 x4)] := by simp only [lv_argsR, lv_argsI, lv_argsL, lv_args0]
  rw [e0]
  have hb3 : ∀ (x0 : Nat) (x1 : Nat) (x2 : Int32) (x3 : Int32) (x4 : Nat) (x5 : Int32) (h : Hp), J x 3 [(0, vR x.2.2.2 x0), (1, vR x.2.2.2 x1), (2, .int x2), (3, .int x3), (4, vR x.2.2.2 x4), (5, .int x5)] [] h (mX4_tabulate_l3 x0 x1 x2 x3 x4 x5 h) (fun r => r = u) := by
    intro x0 x1 x2 x3 x4 x5 h
    have hB : ∀ (x5 : Int32) (h : Hp), J x 3 [(0, vR x.2.2.2 x0), (1, vR x.2.2.2 x1), (2, .int x2), (3, .int x3), (4, vR x.2.2.2 x4), (5, .int x5)] [] h (mX4_tabulate_l3f x0 x1 x2 x3 x4 x5 h) (TLo (S := (Int32 × Hp)) x 3 (fun s => [(0, vR x.2.2.2 x0), (1, vR x.2.2.2 x1), (2, .int x2), (3, .int x3), (4, vR x.2.2.2 x4), (5, .int s.1)]) [] (fun s => s.2) (fun r => r = u)) := by
      intro x5 h
      unfold mX4_tabulate_l3f
      refine j_iload (q := 5) hx (dc kX4_tabulate_0 2 rfl) 5 rfl rfl ?_
      refine j_iconst (q := 6) (v := (4 : Int32)) hx (dc kX4_tabulate_0 3 rfl) (by decide) rfl ?_
      refine j_icmp_geS (q := 9) (tgt := 46) hx (dc kX4_tabulate_0 4 rfl) (by decide) rfl ?_ ?_
      · refine j_exit ?_
        exact r_vW hx hR (dc kX4_tabulate_0 23 rfl)
      · refine j_aload_n (q := 10) hx (dc kX4_tabulate_0 5 rfl) rfl 0 rfl rfl ?_
        refine j_iload (q := 12) hx (dc kX4_tabulate_0 6 rfl) 5 rfl rfl ?_
        refine w_sI (q := 15) hx (dc kX4_tabulate_0 7 rfl) ff_X4_4 rfl lk_X4_21 (Or.inl rfl) rfl (fun h1 => ?_)
        refine j_aload_n (q := 16) hx (dc kX4_tabulate_0 8 rfl) rfl 0 rfl rfl ?_
        refine j_aload_n (q := 17) hx (dc kX4_tabulate_0 9 rfl) rfl 1 rfl rfl ?_
        refine j_iload_n (q := 18) hx (dc kX4_tabulate_0 10 rfl) rfl 2 rfl rfl ?_
        refine j_iload_n (q := 19) hx (dc kX4_tabulate_0 11 rfl) rfl 3 rfl rfl ?_
        refine w_cVVW (q := 22) (As := [vR x.2.2.2 x1, .int x2, .int x3]) (st := []) hx (dc kX4_tabulate_0 12 rfl) cf4 (by decide) rfl (cI _ my_X4_run lm_X4_25 (by decide)) vs_X4_run rfl (fun u hu => sX4_run _ _ _ _ _ _ _ _ hu) (fun e => ite_ne (by unfold mX4_run at e; exact e)) (Nat.zero_le _) rfl (fun h3 => ?_)
        refine j_aload (q := 24) hx (dc kX4_tabulate_0 13 rfl) 4 rfl rfl ?_
        refine w_gR (q := 27) hx (dc kX4_tabulate_0 14 rfl) ff_X10_0 lk_X4_29 rfl (fun v4 => ?_)
        refine j_iload (q := 29) hx (dc kX4_tabulate_0 15 rfl) 5 rfl rfl ?_
        refine j_aload_n (q := 30) hx (dc kX4_tabulate_0 16 rfl) rfl 0 rfl rfl ?_
        refine w_gR (q := 33) hx (dc kX4_tabulate_0 17 rfl) ff_X4_0 lk_X4_11 rfl (fun v5 => ?_)
        refine j_iconst (q := 34) (v := (0 : Int32)) hx (dc kX4_tabulate_0 18 rfl) (by decide) rfl ?_
        refine w_cSJR (q := 37) (As := [vR x.2.2.2 v5, .int (0 : Int32)]) (st := [.int x5, vR x.2.2.2 v4]) hx (dc kX4_tabulate_0 19 rfl) (cI _ my_X11_longAt lm_X4_34 (by decide)) st_X11_longAt rfl (fun u hu => sX11_longAt _ _ _ _ _ _ hu) (sum_le (sum_I (sum_R sum_nil)) (by decide)) rfl (fun v6 => ?_)
        refine w_cSVW (q := 40) (As := [vR x.2.2.2 v4, .int x5, .long v6]) (st := []) hx (dc kX4_tabulate_0 20 rfl) (cI _ my_X11_putLong lm_X4_38 (by decide)) st_X11_putLong rfl (fun u hu => sX11_putLong _ _ _ _ _ _ _ hu) (Nat.zero_le _) rfl (fun h9 => ?_)
        refine j_iinc (q := 43) (l2 := [(0, vR x.2.2.2 x0), (1, vR x.2.2.2 x1), (2, .int x2), (3, .int x3), (4, vR x.2.2.2 x4)]) hx (dc kX4_tabulate_0 21 rfl) 5 rfl (v := (1 : Int32)) (by decide) (hn 5 (by decide)) [0, 1, 2, 3, 4] rfl ⟨⟨show (0 : Nat) ≠ 5 by decide, Or.inl (show (0 : Nat) + 1 ≠ 5 by decide)⟩, ⟨⟨show (1 : Nat) ≠ 5 by decide, Or.inl (show (1 : Nat) + 1 ≠ 5 by decide)⟩, ⟨⟨show (2 : Nat) ≠ 5 by decide, Or.inl (show (2 : Nat) + 1 ≠ 5 by decide)⟩, ⟨⟨show (3 : Nat) ≠ 5 by decide, Or.inl (show (3 : Nat) + 1 ≠ 5 by decide)⟩, ⟨⟨show (4 : Nat) ≠ 5 by decide, Or.inr (vR_cat _ _)⟩, trivial⟩⟩⟩⟩⟩ rfl ?_
        refine j_goto (q := 3) hx (dc kX4_tabulate_0 22 rfl) (by decide) ?_
        exact j_back [1, 2, 3, 4, 5, 0] ((x5 + (1 : Int32)), h9) rfl rfl
    exact j_loop (S := (Int32 × Hp)) (lvf := fun s => [(0, vR x.2.2.2 x0), (1, vR x.2.2.2 x1), (2, .int x2), (3, .int x3), (4, vR x.2.2.2 x4), (5, .int s.1)]) (hpf := fun s => s.2) (f := (fun s : (Int32 × Hp) => mX4_tabulate_l3f x0 x1 x2 x3 x4 s.1 s.2)) (fun s => hB s.1 s.2) (x5, h)
  unfold mX4_tabulate
  refine J.ckd fun hck => ?_
  refine j_iconst (q := 1) (v := (0 : Int32)) hx (dc kX4_tabulate_0 0 rfl) (by decide) rfl ?_
  refine j_istore (q := 3) (i := 5) (l2 := [(0, vR x.2.2.2 x0), (1, vR x.2.2.2 x1), (2, .int x2), (3, .int x3), (4, vR x.2.2.2 x4)]) hx (dc kX4_tabulate_0 1 rfl) (hn 5 (by decide)) [0, 1, 2, 3, 4] rfl ⟨⟨show (0 : Nat) ≠ 5 by decide, Or.inl (show (0 : Nat) + 1 ≠ 5 by decide)⟩, ⟨⟨show (1 : Nat) ≠ 5 by decide, Or.inl (show (1 : Nat) + 1 ≠ 5 by decide)⟩, ⟨⟨show (2 : Nat) ≠ 5 by decide, Or.inl (show (2 : Nat) + 1 ≠ 5 by decide)⟩, ⟨⟨show (3 : Nat) ≠ 5 by decide, Or.inl (show (3 : Nat) + 1 ≠ 5 by decide)⟩, ⟨⟨show (4 : Nat) ≠ 5 by decide, Or.inr (vR_cat _ _)⟩, trivial⟩⟩⟩⟩⟩ rfl ?_
  exact j_sub [1, 2, 3, 4, 5, 0] rfl (hb3 x0 x1 x2 x3 x4 (0 : Int32) h)

set_option maxHeartbeats 4000000 in
set_option maxRecDepth 100000 in
theorem sX1_wonBy (l : Launch) (w : Wd) (x0 : Nat) (x1 : Int32) (h : Hp) (u : Nat) (hK : mX1_wonBy x0 x1 h = some u) : M1 l w mi_X1_wonBy 2 [vR w x0, .int x1] h h (some (vR w u)) := by
  refine M1.of (own := RX1) (T := fun _ r => r = u) hK (by decide +kernel) rfl (by first | (simp only [lg_lenR, lg_lenI, lg_lenL, lg_len0]; decide) | decide) (fun x hx hnl hhf hl hw hret hnm hQ h0e => ⟨?_, rfl⟩)
  subst hw
  subst hl
  have hR : Rt x h h (some (vR x.2.2.2 u)) ((some (.object "StruckCounts$Worlds"))) := ⟨h0e, hhf, hret, hQ⟩
  have hn : ∀ i, i < 2 → i < x.2.2.1.1.1 := fun i hi => by rw [hnl]; exact hi
  have e0 : lv_args 0 [vR x.2.2.2 x0, .int x1] = [(0, vR x.2.2.2 x0), (1, .int x1)] := by simp only [lv_argsR, lv_argsI, lv_argsL, lv_args0]
  rw [e0]
  unfold mX1_wonBy
  refine J.ckd fun hck => ?_
  refine j_aload_n (q := 1) hx (dc kX1_wonBy_0 0 rfl) rfl 0 rfl rfl ?_
  refine j_bipush (q := 3) (v := (26 : Int32)) hx (dc kX1_wonBy_0 1 rfl) (by decide) rfl ?_
  refine j_iload_n (q := 4) hx (dc kX1_wonBy_0 2 rfl) rfl 1 rfl rfl ?_
  refine j_iadd (q := 5) hx (dc kX1_wonBy_0 3 rfl) rfl ?_
  refine w_cVRR (q := 8) (As := [.int ((26 : Int32) + x1)]) (st := []) hx (dc kX1_wonBy_0 4 rfl) cf1 (by decide) rfl (cI _ my_X1_table lm_X1_93 (by decide)) vs_X1_table rfl (fun u hu => sX1_table _ _ _ _ _ _ hu) (fun e => ite_ne (by unfold mX1_table at e; exact e)) (Nat.zero_le _) rfl (fun v1 => ?_)
  exact r_aR hx (Or.inl ⟨_, rfl⟩) hR (dc kX1_wonBy_0 5 rfl)

set_option maxHeartbeats 4000000 in
set_option maxRecDepth 100000 in
theorem sX11_needSlot (l : Launch) (w : Wd) (x0 : Int32) (x1 : Int32) (h : Hp) (u : Int32) (hK : mX11_needSlot x0 x1 = some u) : M1 l w mi_X11_needSlot 1 [.int x0, .int x1] h h (some (.int u)) := by
  refine M1.of (own := RX11) (T := fun _ r => r = u) hK (by decide +kernel) rfl (by first | (simp only [lg_lenR, lg_lenI, lg_lenL, lg_len0]; decide) | decide) (fun x hx hnl hhf hl hw hret hnm hQ h0e => ⟨?_, rfl⟩)
  subst hw
  subst hl
  have hR : Rt x h h (some (.int u)) ((some .int)) := ⟨h0e, hhf, hret, hQ⟩
  have hn : ∀ i, i < 2 → i < x.2.2.1.1.1 := fun i hi => by rw [hnl]; exact hi
  have e0 : lv_args 0 [.int x0, .int x1] = [(0, .int x0), (1, .int x1)] := by simp only [lv_argsR, lv_argsI, lv_argsL, lv_args0]
  rw [e0]
  unfold mX11_needSlot
  refine j_iconst (q := 1) (v := (4 : Int32)) hx (dc kX11_needSlot_0 0 rfl) (by decide) rfl ?_
  refine j_iload_n (q := 2) hx (dc kX11_needSlot_0 1 rfl) rfl 0 rfl rfl ?_
  refine j_imul (q := 3) hx (dc kX11_needSlot_0 2 rfl) rfl ?_
  refine j_iload_n (q := 4) hx (dc kX11_needSlot_0 3 rfl) rfl 1 rfl rfl ?_
  refine j_iadd (q := 5) hx (dc kX11_needSlot_0 4 rfl) rfl ?_
  exact r_iR hx hR (dc kX11_needSlot_0 5 rfl)

set_option maxHeartbeats 4000000 in
set_option maxRecDepth 100000 in
theorem sX10_and (l : Launch) (w : Wd) (x0 : Nat) (x1 : Nat) (h : Hp) (u : Hp) (hK : mX10_and x0 x1 h = some u) : M1 l w mi_X10_and 1 [vR w x0, vR w x1] h u (none) := by
  refine M1.of (own := RX10) (T := fun _ r => r = u) hK (by decide +kernel) rfl (by first | (simp only [lg_lenR, lg_lenI, lg_lenL, lg_len0]; decide) | decide) (fun x hx hnl hhf hl hw hret hnm hQ h0e => ⟨?_, rfl⟩)
  subst hw
  subst hl
  have hR : Rt x h u (none) (none) := ⟨h0e, hhf, hret, hQ⟩
  have hn : ∀ i, i < 3 → i < x.2.2.1.1.1 := fun i hi => by rw [hnl]; exact hi
  have e0 : lv_args 0 [vR x.2.2.2 x0, vR x.2.2.2 x1] = [(0, vR x.2.2.2 x0), (1, vR x.2.2.2 x1)] := by simp only [lv_argsR, lv_argsI, lv_argsL, lv_args0]
  rw [e0]
  have hb2 : ∀ (x0 : Nat) (x1 : Nat) (x2 : Int32) (h : Hp), J x 2 [(0, vR x.2.2.2 x0), (1, vR x.2.2.2 x1), (2, .int x2)] [] h (mX10_and_l2 x0 x1 x2 h) (fun r => r = u) := by
    intro x0 x1 x2 h
    have hB : ∀ (x2 : Int32) (h : Hp), J x 2 [(0, vR x.2.2.2 x0), (1, vR x.2.2.2 x1), (2, .int x2)] [] h (mX10_and_l2f x0 x1 x2 h) (TLo (S := (Int32 × Hp)) x 2 (fun s => [(0, vR x.2.2.2 x0), (1, vR x.2.2.2 x1), (2, .int s.1)]) [] (fun s => s.2) (fun r => r = u)) := by
      intro x2 h
      unfold mX10_and_l2f
      refine j_iload_n (q := 3) hx (dc kX10_and_0 2 rfl) rfl 2 rfl rfl ?_
      refine j_aload_n (q := 4) hx (dc kX10_and_0 3 rfl) rfl 0 rfl rfl ?_
      refine w_gR (q := 7) hx (dc kX10_and_0 4 rfl) ff_X10_0 lk_X10_9 rfl (fun v1 => ?_)
      refine j_alen (q := 8) hx (dc kX10_and_0 5 rfl) rfl (fun v2 => ?_)
      refine j_icmp_geS (q := 11) (tgt := 41) hx (dc kX10_and_0 6 rfl) (by decide) rfl ?_ ?_
      · refine j_exit ?_
        exact r_vW hx hR (dc kX10_and_0 25 rfl)
      · refine j_iload_n (q := 12) hx (dc kX10_and_0 7 rfl) rfl 2 rfl rfl ?_
        refine j_aload_n (q := 13) hx (dc kX10_and_0 8 rfl) rfl 1 rfl rfl ?_
        refine w_gR (q := 16) hx (dc kX10_and_0 9 rfl) ff_X10_0 lk_X10_9 rfl (fun v3 => ?_)
        refine j_alen (q := 17) hx (dc kX10_and_0 10 rfl) rfl (fun v4 => ?_)
        refine j_icmp_geS (q := 20) (tgt := 41) hx (dc kX10_and_0 11 rfl) (by decide) rfl ?_ ?_
        · refine j_exit ?_
          exact r_vW hx hR (dc kX10_and_0 25 rfl)
        · refine j_aload_n (q := 21) hx (dc kX10_and_0 12 rfl) rfl 0 rfl rfl ?_
          refine w_gR (q := 24) hx (dc kX10_and_0 13 rfl) ff_X10_0 lk_X10_9 rfl (fun v5 => ?_)
          refine j_iload_n (q := 25) hx (dc kX10_and_0 14 rfl) rfl 2 rfl rfl ?_
          refine j_dup2_11 (q := 26) hx (dc kX10_and_0 15 rfl) rfl (vR_cat _ _) rfl ?_
          refine j_ldL (q := 27) hx (dc kX10_and_0 16 rfl) rfl (fun v6 => ?_)
          refine j_aload_n (q := 28) hx (dc kX10_and_0 17 rfl) rfl 1 rfl rfl ?_
          refine w_gR (q := 31) hx (dc kX10_and_0 18 rfl) ff_X10_0 lk_X10_9 rfl (fun v7 => ?_)
          refine j_iload_n (q := 32) hx (dc kX10_and_0 19 rfl) rfl 2 rfl rfl ?_
          refine j_ldL (q := 33) hx (dc kX10_and_0 20 rfl) rfl (fun v8 => ?_)
          refine j_land (q := 34) hx (dc kX10_and_0 21 rfl) rfl ?_
          refine w_stL (q := 35) hx (dc kX10_and_0 22 rfl) rfl (fun h9 => ?_)
          refine j_iinc (q := 38) (l2 := [(0, vR x.2.2.2 x0), (1, vR x.2.2.2 x1)]) hx (dc kX10_and_0 23 rfl) 2 rfl (v := (1 : Int32)) (by decide) (hn 2 (by decide)) [0, 1] rfl ⟨⟨show (0 : Nat) ≠ 2 by decide, Or.inl (show (0 : Nat) + 1 ≠ 2 by decide)⟩, ⟨⟨show (1 : Nat) ≠ 2 by decide, Or.inr (vR_cat _ _)⟩, trivial⟩⟩ rfl ?_
          refine j_goto (q := 2) hx (dc kX10_and_0 24 rfl) (by decide) ?_
          exact j_back [1, 2, 0] ((x2 + (1 : Int32)), h9) rfl rfl
    exact j_loop (S := (Int32 × Hp)) (lvf := fun s => [(0, vR x.2.2.2 x0), (1, vR x.2.2.2 x1), (2, .int s.1)]) (hpf := fun s => s.2) (f := (fun s : (Int32 × Hp) => mX10_and_l2f x0 x1 s.1 s.2)) (fun s => hB s.1 s.2) (x2, h)
  unfold mX10_and
  refine J.ckd fun hck => ?_
  refine j_iconst (q := 1) (v := (0 : Int32)) hx (dc kX10_and_0 0 rfl) (by decide) rfl ?_
  refine j_istore_n (q := 2) (i := 2) (l2 := [(0, vR x.2.2.2 x0), (1, vR x.2.2.2 x1)]) hx (dc kX10_and_0 1 rfl) rfl (hn 2 (by decide)) [0, 1] rfl ⟨⟨show (0 : Nat) ≠ 2 by decide, Or.inl (show (0 : Nat) + 1 ≠ 2 by decide)⟩, ⟨⟨show (1 : Nat) ≠ 2 by decide, Or.inr (vR_cat _ _)⟩, trivial⟩⟩ rfl ?_
  exact j_sub [1, 2, 0] rfl (hb2 x0 x1 (0 : Int32) h)

set_option maxHeartbeats 4000000 in
set_option maxRecDepth 100000 in
theorem sX10_minus (l : Launch) (w : Wd) (x0 : Nat) (x1 : Nat) (h : Hp) (u : Hp) (hK : mX10_minus x0 x1 h = some u) : M1 l w mi_X10_minus 1 [vR w x0, vR w x1] h u (none) := by
  refine M1.of (own := RX10) (T := fun _ r => r = u) hK (by decide +kernel) rfl (by first | (simp only [lg_lenR, lg_lenI, lg_lenL, lg_len0]; decide) | decide) (fun x hx hnl hhf hl hw hret hnm hQ h0e => ⟨?_, rfl⟩)
  subst hw
  subst hl
  have hR : Rt x h u (none) (none) := ⟨h0e, hhf, hret, hQ⟩
  have hn : ∀ i, i < 3 → i < x.2.2.1.1.1 := fun i hi => by rw [hnl]; exact hi
  have e0 : lv_args 0 [vR x.2.2.2 x0, vR x.2.2.2 x1] = [(0, vR x.2.2.2 x0), (1, vR x.2.2.2 x1)] := by simp only [lv_argsR, lv_argsI, lv_argsL, lv_args0]
  rw [e0]
  have hb2 : ∀ (x0 : Nat) (x1 : Nat) (x2 : Int32) (h : Hp), J x 2 [(0, vR x.2.2.2 x0), (1, vR x.2.2.2 x1), (2, .int x2)] [] h (mX10_minus_l2 x0 x1 x2 h) (fun r => r = u) := by
    intro x0 x1 x2 h
    have hB : ∀ (x2 : Int32) (h : Hp), J x 2 [(0, vR x.2.2.2 x0), (1, vR x.2.2.2 x1), (2, .int x2)] [] h (mX10_minus_l2f x0 x1 x2 h) (TLo (S := (Int32 × Hp)) x 2 (fun s => [(0, vR x.2.2.2 x0), (1, vR x.2.2.2 x1), (2, .int s.1)]) [] (fun s => s.2) (fun r => r = u)) := by
      intro x2 h
      unfold mX10_minus_l2f
      refine j_iload_n (q := 3) hx (dc kX10_minus_0 2 rfl) rfl 2 rfl rfl ?_
      refine j_aload_n (q := 4) hx (dc kX10_minus_0 3 rfl) rfl 0 rfl rfl ?_
      refine w_gR (q := 7) hx (dc kX10_minus_0 4 rfl) ff_X10_0 lk_X10_9 rfl (fun v1 => ?_)
      refine j_alen (q := 8) hx (dc kX10_minus_0 5 rfl) rfl (fun v2 => ?_)
      refine j_icmp_geS (q := 11) (tgt := 45) hx (dc kX10_minus_0 6 rfl) (by decide) rfl ?_ ?_
      · refine j_exit ?_
        exact r_vW hx hR (dc kX10_minus_0 27 rfl)
      · refine j_iload_n (q := 12) hx (dc kX10_minus_0 7 rfl) rfl 2 rfl rfl ?_
        refine j_aload_n (q := 13) hx (dc kX10_minus_0 8 rfl) rfl 1 rfl rfl ?_
        refine w_gR (q := 16) hx (dc kX10_minus_0 9 rfl) ff_X10_0 lk_X10_9 rfl (fun v3 => ?_)
        refine j_alen (q := 17) hx (dc kX10_minus_0 10 rfl) rfl (fun v4 => ?_)
        refine j_icmp_geS (q := 20) (tgt := 45) hx (dc kX10_minus_0 11 rfl) (by decide) rfl ?_ ?_
        · refine j_exit ?_
          exact r_vW hx hR (dc kX10_minus_0 27 rfl)
        · refine j_aload_n (q := 21) hx (dc kX10_minus_0 12 rfl) rfl 0 rfl rfl ?_
          refine w_gR (q := 24) hx (dc kX10_minus_0 13 rfl) ff_X10_0 lk_X10_9 rfl (fun v5 => ?_)
          refine j_iload_n (q := 25) hx (dc kX10_minus_0 14 rfl) rfl 2 rfl rfl ?_
          refine j_dup2_11 (q := 26) hx (dc kX10_minus_0 15 rfl) rfl (vR_cat _ _) rfl ?_
          refine j_ldL (q := 27) hx (dc kX10_minus_0 16 rfl) rfl (fun v6 => ?_)
          refine j_aload_n (q := 28) hx (dc kX10_minus_0 17 rfl) rfl 1 rfl rfl ?_
          refine w_gR (q := 31) hx (dc kX10_minus_0 18 rfl) ff_X10_0 lk_X10_9 rfl (fun v7 => ?_)
          refine j_iload_n (q := 32) hx (dc kX10_minus_0 19 rfl) rfl 2 rfl rfl ?_
          refine j_ldL (q := 33) hx (dc kX10_minus_0 20 rfl) rfl (fun v8 => ?_)
          refine j_ldc2 (q := 36) hx kl_X10_18 (dc kX10_minus_0 21 rfl) rfl ?_
          refine j_lxor (q := 37) hx (dc kX10_minus_0 22 rfl) rfl ?_
          refine j_land (q := 38) hx (dc kX10_minus_0 23 rfl) rfl ?_
          refine w_stL (q := 39) hx (dc kX10_minus_0 24 rfl) rfl (fun h9 => ?_)
          refine j_iinc (q := 42) (l2 := [(0, vR x.2.2.2 x0), (1, vR x.2.2.2 x1)]) hx (dc kX10_minus_0 25 rfl) 2 rfl (v := (1 : Int32)) (by decide) (hn 2 (by decide)) [0, 1] rfl ⟨⟨show (0 : Nat) ≠ 2 by decide, Or.inl (show (0 : Nat) + 1 ≠ 2 by decide)⟩, ⟨⟨show (1 : Nat) ≠ 2 by decide, Or.inr (vR_cat _ _)⟩, trivial⟩⟩ rfl ?_
          refine j_goto (q := 2) hx (dc kX10_minus_0 26 rfl) (by decide) ?_
          exact j_back [1, 2, 0] ((x2 + (1 : Int32)), h9) rfl rfl
    exact j_loop (S := (Int32 × Hp)) (lvf := fun s => [(0, vR x.2.2.2 x0), (1, vR x.2.2.2 x1), (2, .int s.1)]) (hpf := fun s => s.2) (f := (fun s : (Int32 × Hp) => mX10_minus_l2f x0 x1 s.1 s.2)) (fun s => hB s.1 s.2) (x2, h)
  unfold mX10_minus
  refine J.ckd fun hck => ?_
  refine j_iconst (q := 1) (v := (0 : Int32)) hx (dc kX10_minus_0 0 rfl) (by decide) rfl ?_
  refine j_istore_n (q := 2) (i := 2) (l2 := [(0, vR x.2.2.2 x0), (1, vR x.2.2.2 x1)]) hx (dc kX10_minus_0 1 rfl) rfl (hn 2 (by decide)) [0, 1] rfl ⟨⟨show (0 : Nat) ≠ 2 by decide, Or.inl (show (0 : Nat) + 1 ≠ 2 by decide)⟩, ⟨⟨show (1 : Nat) ≠ 2 by decide, Or.inr (vR_cat _ _)⟩, trivial⟩⟩ rfl ?_
  exact j_sub [1, 2, 0] rfl (hb2 x0 x1 (0 : Int32) h)

set_option maxHeartbeats 4000000 in
set_option maxRecDepth 100000 in
theorem sX1_finishWon (l : Launch) (w : Wd) (x0 : Nat) (x1 : Int32) (x2 : Nat) (h : Hp) (u : Hp) (hK : mX1_finishWon x0 x1 x2 h = some u) : M1 l w mi_X1_finishWon 2 [vR w x0, .int x1, vR w x2] h u (none) := by
  refine M1.of (own := RX1) (T := fun _ r => r = u) hK (by decide +kernel) rfl (by first | (simp only [lg_lenR, lg_lenI, lg_lenL, lg_len0]; decide) | decide) (fun x hx hnl hhf hl hw hret hnm hQ h0e => ⟨?_, rfl⟩)
  subst hw
  subst hl
  have hR : Rt x h u (none) (none) := ⟨h0e, hhf, hret, hQ⟩
  have hn : ∀ i, i < 4 → i < x.2.2.1.1.1 := fun i hi => by rw [hnl]; exact hi
  have e0 : lv_args 0 [vR x.2.2.2 x0, .int x1, vR x.2.2.2 x2] = [(0, vR x.2.2.2 x0), (1, .int x1), (2, vR x.2.2.2 x2)] := by simp only [lv_argsR, lv_argsI, lv_argsL, lv_args0]
  rw [e0]
  have hb39 : ∀ (x0 : Nat) (x1 : Int32) (x2 : Nat) (x3 : Int32) (h : Hp), J x 39 [(0, vR x.2.2.2 x0), (1, .int x1), (2, vR x.2.2.2 x2), (3, .int x3)] [] h (mX1_finishWon_l39 x0 x1 x2 x3 h) (fun r => r = u) := by
    intro x0 x1 x2 x3 h
    have hB : ∀ (x3 : Int32) (h : Hp), J x 39 [(0, vR x.2.2.2 x0), (1, .int x1), (2, vR x.2.2.2 x2), (3, .int x3)] [] h (mX1_finishWon_l39f x0 x1 x2 x3 h) (TLo (S := (Int32 × Hp)) x 39 (fun s => [(0, vR x.2.2.2 x0), (1, .int x1), (2, vR x.2.2.2 x2), (3, .int s.1)]) [] (fun s => s.2) (fun r => r = u)) := by
      intro x3 h
      have hb71 : ∀ (x0 : Nat) (x1 : Int32) (x2 : Nat) (x3 : Int32) (h : Hp), J x 71 [(0, vR x.2.2.2 x0), (1, .int x1), (2, vR x.2.2.2 x2), (3, .int x3)] [] h (mX1_finishWon_b71 x0 x1 x2 x3 h) (TLo (S := (Int32 × Hp)) x 39 (fun s => [(0, vR x.2.2.2 x0), (1, .int x1), (2, vR x.2.2.2 x2), (3, .int s.1)]) [] (fun s => s.2) (fun r => r = u)) := by
        intro x0 x1 x2 x3 h
        unfold mX1_finishWon_b71
        refine j_iinc (q := 74) (l2 := [(0, vR x.2.2.2 x0), (1, .int x1), (2, vR x.2.2.2 x2)]) hx (dc kX1_finishWon_0 38 rfl) 3 rfl (v := (1 : Int32)) (by decide) (hn 3 (by decide)) [0, 1, 2] rfl ⟨⟨show (0 : Nat) ≠ 3 by decide, Or.inl (show (0 : Nat) + 1 ≠ 3 by decide)⟩, ⟨⟨show (1 : Nat) ≠ 3 by decide, Or.inl (show (1 : Nat) + 1 ≠ 3 by decide)⟩, ⟨⟨show (2 : Nat) ≠ 3 by decide, Or.inr (vR_cat _ _)⟩, trivial⟩⟩⟩ rfl ?_
        refine j_goto (q := 39) hx (dc kX1_finishWon_0 39 rfl) (by decide) ?_
        exact j_back [1, 2, 3, 0] ((x3 + (1 : Int32)), h) rfl rfl
      unfold mX1_finishWon_l39f
      refine j_iload_n (q := 40) hx (dc kX1_finishWon_0 21 rfl) rfl 3 rfl rfl ?_
      refine j_aload_n (q := 41) hx (dc kX1_finishWon_0 22 rfl) rfl 0 rfl rfl ?_
      refine w_gI (q := 44) hx (dc kX1_finishWon_0 23 rfl) ff_X1_4 lk_X1_69 rfl (fun v6 => ?_)
      refine j_icmp_geS (q := 47) (tgt := 77) hx (dc kX1_finishWon_0 24 rfl) (by decide) rfl ?_ ?_
      · refine j_exit ?_
        exact r_vW hx hR (dc kX1_finishWon_0 40 rfl)
      · refine j_aload_n (q := 48) hx (dc kX1_finishWon_0 25 rfl) rfl 0 rfl rfl ?_
        refine w_gR (q := 51) hx (dc kX1_finishWon_0 26 rfl) ff_X1_9 lk_X1_21 rfl (fun v7 => ?_)
        refine j_iload_n (q := 52) hx (dc kX1_finishWon_0 27 rfl) rfl 3 rfl rfl ?_
        refine w_cSIR (q := 55) (As := [vR x.2.2.2 v7, .int x3]) (st := []) hx (dc kX1_finishWon_0 28 rfl) (cI _ my_X11_at lm_X1_89 (by decide)) st_X11_at rfl (fun u hu => sX11_at _ _ _ _ _ _ hu) (Nat.zero_le _) rfl (fun v8 => ?_)
        refine j_iload_n (q := 56) hx (dc kX1_finishWon_0 29 rfl) rfl 1 rfl rfl ?_
        refine j_icmp_neS (q := 59) (tgt := 71) hx (dc kX1_finishWon_0 30 rfl) (by decide) rfl ?_ ?_
        · exact hb71 x0 x1 x2 x3 h
        · refine j_aload_n (q := 60) hx (dc kX1_finishWon_0 31 rfl) rfl 2 rfl rfl ?_
          refine j_aload_n (q := 61) hx (dc kX1_finishWon_0 32 rfl) rfl 0 rfl rfl ?_
          refine j_bipush (q := 63) (v := (20 : Int32)) hx (dc kX1_finishWon_0 33 rfl) (by decide) rfl ?_
          refine j_iload_n (q := 64) hx (dc kX1_finishWon_0 34 rfl) rfl 3 rfl rfl ?_
          refine j_iadd (q := 65) hx (dc kX1_finishWon_0 35 rfl) rfl ?_
          refine w_cVRR (q := 68) (As := [.int ((20 : Int32) + x3)]) (st := [vR x.2.2.2 x2]) hx (dc kX1_finishWon_0 36 rfl) cf1 (by decide) rfl (cI _ my_X1_table lm_X1_93 (by decide)) vs_X1_table rfl (fun u hu => sX1_table _ _ _ _ _ _ hu) (fun e => ite_ne (by unfold mX1_table at e; exact e)) (sum_le (sum_R sum_nil) (by decide)) rfl (fun v10 => ?_)
          refine w_cVVW (q := 71) (As := [vR x.2.2.2 v10]) (st := []) hx (dc kX1_finishWon_0 37 rfl) cf10 (by decide) rfl (cI _ my_X10_minus lm_X1_126 (by decide)) vs_X10_minus rfl (fun u hu => sX10_minus _ _ _ _ _ _ hu) (fun e => ite_ne (by unfold mX10_minus at e; exact e)) (Nat.zero_le _) rfl (fun h13 => ?_)
          exact hb71 x0 x1 x2 x3 h13
    exact j_loop (S := (Int32 × Hp)) (lvf := fun s => [(0, vR x.2.2.2 x0), (1, .int x1), (2, vR x.2.2.2 x2), (3, .int s.1)]) (hpf := fun s => s.2) (f := (fun s : (Int32 × Hp) => mX1_finishWon_l39f x0 x1 x2 s.1 s.2)) (fun s => hB s.1 s.2) (x3, h)
  have hb6 : ∀ (x0 : Nat) (x1 : Int32) (x2 : Nat) (x3 : Int32) (h : Hp), J x 6 [(0, vR x.2.2.2 x0), (1, .int x1), (2, vR x.2.2.2 x2), (3, .int x3)] [] h (mX1_finishWon_l6 x0 x1 x2 x3 h) (fun r => r = u) := by
    intro x0 x1 x2 x3 h
    have hB : ∀ (x3 : Int32) (h : Hp), J x 6 [(0, vR x.2.2.2 x0), (1, .int x1), (2, vR x.2.2.2 x2), (3, .int x3)] [] h (mX1_finishWon_l6f x0 x1 x2 x3 h) (TLo (S := (Int32 × Hp)) x 6 (fun s => [(0, vR x.2.2.2 x0), (1, .int x1), (2, vR x.2.2.2 x2), (3, .int s.1)]) [] (fun s => s.2) (fun r => r = u)) := by
      intro x3 h
      unfold mX1_finishWon_l6f
      refine j_iload_n (q := 7) hx (dc kX1_finishWon_0 4 rfl) rfl 3 rfl rfl ?_
      refine j_aload_n (q := 8) hx (dc kX1_finishWon_0 5 rfl) rfl 0 rfl rfl ?_
      refine w_gR (q := 11) hx (dc kX1_finishWon_0 6 rfl) ff_X1_8 lk_X1_18 rfl (fun v3 => ?_)
      refine j_iload_n (q := 12) hx (dc kX1_finishWon_0 7 rfl) rfl 1 rfl rfl ?_
      refine w_cSIR (q := 15) (As := [vR x.2.2.2 v3, .int x1]) (st := [.int x3]) hx (dc kX1_finishWon_0 8 rfl) (cI _ my_X11_at lm_X1_89 (by decide)) st_X11_at rfl (fun u hu => sX11_at _ _ _ _ _ _ hu) (sum_le (sum_I sum_nil) (by decide)) rfl (fun v4 => ?_)
      refine j_icmp_geS (q := 18) (tgt := 37) hx (dc kX1_finishWon_0 9 rfl) (by decide) rfl ?_ ?_
      · refine j_exit ?_
        refine j_iconst (q := 38) (v := (0 : Int32)) hx (dc kX1_finishWon_0 19 rfl) (by decide) rfl ?_
        refine j_istore_n (q := 39) (i := 3) (l2 := [(0, vR x.2.2.2 x0), (1, .int x1), (2, vR x.2.2.2 x2)]) hx (dc kX1_finishWon_0 20 rfl) rfl (hn 3 (by decide)) [0, 1, 2] rfl ⟨⟨show (0 : Nat) ≠ 3 by decide, Or.inl (show (0 : Nat) + 1 ≠ 3 by decide)⟩, ⟨⟨show (1 : Nat) ≠ 3 by decide, Or.inl (show (1 : Nat) + 1 ≠ 3 by decide)⟩, ⟨⟨show (2 : Nat) ≠ 3 by decide, Or.inr (vR_cat _ _)⟩, trivial⟩⟩⟩ rfl ?_
        exact j_sub [1, 2, 3, 0] rfl (hb39 x0 x1 x2 (0 : Int32) h)
      · refine j_aload_n (q := 19) hx (dc kX1_finishWon_0 10 rfl) rfl 2 rfl rfl ?_
        refine j_aload_n (q := 20) hx (dc kX1_finishWon_0 11 rfl) rfl 0 rfl rfl ?_
        refine j_iload_n (q := 21) hx (dc kX1_finishWon_0 12 rfl) rfl 1 rfl rfl ?_
        refine j_iload_n (q := 22) hx (dc kX1_finishWon_0 13 rfl) rfl 3 rfl rfl ?_
        refine w_cSIR (q := 25) (As := [.int x1, .int x3]) (st := [vR x.2.2.2 x0, vR x.2.2.2 x2]) hx (dc kX1_finishWon_0 14 rfl) (cI _ my_X11_needSlot lm_X1_118 (by decide)) st_X11_needSlot rfl (fun u hu => sX11_needSlot _ _ _ _ _ _ hu) (sum_le (sum_R (sum_R sum_nil)) (by decide)) rfl (fun v14 => ?_)
        refine w_cVRR (q := 28) (As := [.int v14]) (st := [vR x.2.2.2 x2]) hx (dc kX1_finishWon_0 15 rfl) cf1 (by decide) rfl (cI _ my_X1_table lm_X1_93 (by decide)) vs_X1_table rfl (fun u hu => sX1_table _ _ _ _ _ _ hu) (fun e => ite_ne (by unfold mX1_table at e; exact e)) (sum_le (sum_R sum_nil) (by decide)) rfl (fun v16 => ?_)
        refine w_cVVW (q := 31) (As := [vR x.2.2.2 v16]) (st := []) hx (dc kX1_finishWon_0 16 rfl) cf10 (by decide) rfl (cI _ my_X10_and lm_X1_122 (by decide)) vs_X10_and rfl (fun u hu => sX10_and _ _ _ _ _ _ hu) (fun e => ite_ne (by unfold mX10_and at e; exact e)) (Nat.zero_le _) rfl (fun h19 => ?_)
        refine j_iinc (q := 34) (l2 := [(0, vR x.2.2.2 x0), (1, .int x1), (2, vR x.2.2.2 x2)]) hx (dc kX1_finishWon_0 17 rfl) 3 rfl (v := (1 : Int32)) (by decide) (hn 3 (by decide)) [0, 1, 2] rfl ⟨⟨show (0 : Nat) ≠ 3 by decide, Or.inl (show (0 : Nat) + 1 ≠ 3 by decide)⟩, ⟨⟨show (1 : Nat) ≠ 3 by decide, Or.inl (show (1 : Nat) + 1 ≠ 3 by decide)⟩, ⟨⟨show (2 : Nat) ≠ 3 by decide, Or.inr (vR_cat _ _)⟩, trivial⟩⟩⟩ rfl ?_
        refine j_goto (q := 6) hx (dc kX1_finishWon_0 18 rfl) (by decide) ?_
        exact j_back [1, 2, 3, 0] ((x3 + (1 : Int32)), h19) rfl rfl
    exact j_loop (S := (Int32 × Hp)) (lvf := fun s => [(0, vR x.2.2.2 x0), (1, .int x1), (2, vR x.2.2.2 x2), (3, .int s.1)]) (hpf := fun s => s.2) (f := (fun s : (Int32 × Hp) => mX1_finishWon_l6f x0 x1 x2 s.1 s.2)) (fun s => hB s.1 s.2) (x3, h)
  unfold mX1_finishWon
  refine J.ckd fun hck => ?_
  refine j_aload_n (q := 1) hx (dc kX1_finishWon_0 0 rfl) rfl 2 rfl rfl ?_
  refine w_cVVW (q := 4) (As := []) (st := []) hx (dc kX1_finishWon_0 1 rfl) cf10 (by decide) rfl (cI _ my_X10_fill lm_X1_82 (by decide)) vs_X10_fill rfl (fun u hu => sX10_fill _ _ _ _ _ hu) (fun e => ite_ne (by unfold mX10_fill at e; exact e)) (Nat.zero_le _) rfl (fun h2 => ?_)
  refine j_iconst (q := 5) (v := (0 : Int32)) hx (dc kX1_finishWon_0 2 rfl) (by decide) rfl ?_
  refine j_istore_n (q := 6) (i := 3) (l2 := [(0, vR x.2.2.2 x0), (1, .int x1), (2, vR x.2.2.2 x2)]) hx (dc kX1_finishWon_0 3 rfl) rfl (hn 3 (by decide)) [0, 1, 2] rfl ⟨⟨show (0 : Nat) ≠ 3 by decide, Or.inl (show (0 : Nat) + 1 ≠ 3 by decide)⟩, ⟨⟨show (1 : Nat) ≠ 3 by decide, Or.inl (show (1 : Nat) + 1 ≠ 3 by decide)⟩, ⟨⟨show (2 : Nat) ≠ 3 by decide, Or.inr (vR_cat _ _)⟩, trivial⟩⟩⟩ rfl ?_
  exact j_sub [1, 2, 3, 0] rfl (hb6 x0 x1 x2 (0 : Int32) h2)

set_option maxHeartbeats 4000000 in
set_option maxRecDepth 100000 in
theorem sX1_weightOf (l : Launch) (w : Wd) (x0 : Nat) (x1 : Int32) (h : Hp) (u : Int32) (hK : mX1_weightOf x0 x1 h = some u) : M1 l w mi_X1_weightOf 2 [vR w x0, .int x1] h h (some (.int u)) := by
  refine M1.of (own := RX1) (T := fun _ r => r = u) hK (by decide +kernel) rfl (by first | (simp only [lg_lenR, lg_lenI, lg_lenL, lg_len0]; decide) | decide) (fun x hx hnl hhf hl hw hret hnm hQ h0e => ⟨?_, rfl⟩)
  subst hw
  subst hl
  have hR : Rt x h h (some (.int u)) ((some .int)) := ⟨h0e, hhf, hret, hQ⟩
  have hn : ∀ i, i < 4 → i < x.2.2.1.1.1 := fun i hi => by rw [hnl]; exact hi
  have e0 : lv_args 0 [vR x.2.2.2 x0, .int x1] = [(0, vR x.2.2.2 x0), (1, .int x1)] := by simp only [lv_argsR, lv_argsI, lv_argsL, lv_args0]
  rw [e0]
  have hb4 : ∀ (x0 : Nat) (x1 : Int32) (x2 : Int32) (x3 : Int32), J x 4 [(0, vR x.2.2.2 x0), (1, .int x1), (2, .int x2), (3, .int x3)] [] h (mX1_weightOf_l4 x0 x1 x2 x3 h) (fun r => r = u) := by
    intro x0 x1 x2 x3
    have hB : ∀ (x2 : Int32) (x3 : Int32), J x 4 [(0, vR x.2.2.2 x0), (1, .int x1), (2, .int x2), (3, .int x3)] [] h (mX1_weightOf_l4f x0 x1 h x2 x3) (TLo (S := (Int32 × Int32)) x 4 (fun s => [(0, vR x.2.2.2 x0), (1, .int x1), (2, .int s.1), (3, .int s.2)]) [] (fun s => h) (fun r => r = u)) := by
      intro x2 x3
      have hb43 : ∀ (x0 : Nat) (x1 : Int32) (x3 : Int32) (t0 : Int32) (t1 : Int32), J x 43 [(0, vR x.2.2.2 x0), (1, .int x1), (3, .int x3)] [.int t1, .int t0] h (mX1_weightOf_b43 x0 x1 x3 t0 t1 h) (TLo (S := (Int32 × Int32)) x 4 (fun s => [(0, vR x.2.2.2 x0), (1, .int x1), (2, .int s.1), (3, .int s.2)]) [] (fun s => h) (fun r => r = u)) := by
        intro x0 x1 x3 t0 t1
        unfold mX1_weightOf_b43
        refine j_imul (q := 44) hx (dc kX1_weightOf_0 24 rfl) rfl ?_
        refine j_istore_n (q := 45) (i := 2) (l2 := [(0, vR x.2.2.2 x0), (1, .int x1), (3, .int x3)]) hx (dc kX1_weightOf_0 25 rfl) rfl (hn 2 (by decide)) [0, 1, 2] rfl ⟨⟨show (0 : Nat) ≠ 2 by decide, Or.inl (show (0 : Nat) + 1 ≠ 2 by decide)⟩, ⟨⟨show (1 : Nat) ≠ 2 by decide, Or.inr rfl⟩, ⟨⟨show (3 : Nat) ≠ 2 by decide, Or.inl (show (3 : Nat) + 1 ≠ 2 by decide)⟩, trivial⟩⟩⟩ rfl ?_
        refine j_iinc (q := 48) (l2 := [(2, .int (t0 * t1)), (0, vR x.2.2.2 x0), (1, .int x1)]) hx (dc kX1_weightOf_0 26 rfl) 3 rfl (v := (1 : Int32)) (by decide) (hn 3 (by decide)) [0, 1, 2] rfl ⟨⟨show (2 : Nat) ≠ 3 by decide, Or.inr rfl⟩, ⟨⟨show (0 : Nat) ≠ 3 by decide, Or.inl (show (0 : Nat) + 1 ≠ 3 by decide)⟩, ⟨⟨show (1 : Nat) ≠ 3 by decide, Or.inl (show (1 : Nat) + 1 ≠ 3 by decide)⟩, trivial⟩⟩⟩ rfl ?_
        refine j_goto (q := 4) hx (dc kX1_weightOf_0 27 rfl) (by decide) ?_
        exact j_back [2, 3, 1, 0] ((t0 * t1), (x3 + (1 : Int32))) rfl rfl
      unfold mX1_weightOf_l4f
      refine j_iload_n (q := 5) hx (dc kX1_weightOf_0 4 rfl) rfl 3 rfl rfl ?_
      refine j_aload_n (q := 6) hx (dc kX1_weightOf_0 5 rfl) rfl 0 rfl rfl ?_
      refine w_gI (q := 9) hx (dc kX1_weightOf_0 6 rfl) ff_X1_1 lk_X1_60 rfl (fun v1 => ?_)
      refine j_icmp_geS (q := 12) (tgt := 51) hx (dc kX1_weightOf_0 7 rfl) (by decide) rfl ?_ ?_
      · refine j_exit ?_
        refine j_iload_n (q := 52) hx (dc kX1_weightOf_0 28 rfl) rfl 2 rfl rfl ?_
        exact r_iR hx hR (dc kX1_weightOf_0 29 rfl)
      · refine j_iload_n (q := 13) hx (dc kX1_weightOf_0 8 rfl) rfl 2 rfl rfl ?_
        refine j_iload_n (q := 14) hx (dc kX1_weightOf_0 9 rfl) rfl 1 rfl rfl ?_
        refine j_iload_n (q := 15) hx (dc kX1_weightOf_0 10 rfl) rfl 3 rfl rfl ?_
        refine w_cSIR (q := 18) (As := [.int x1, .int x3]) (st := [.int x2]) hx (dc kX1_weightOf_0 11 rfl) (cI _ my_X11_has lm_X1_129 (by decide)) st_X11_has rfl (fun u hu => sX11_has _ _ _ _ _ _ hu) (sum_le (sum_I sum_nil) (by decide)) rfl (fun v2 => ?_)
        refine j_if_eq (q := 21) (tgt := 32) hx (dc kX1_weightOf_0 12 rfl) (by decide) Iff.rfl rfl ?_ ?_
        · refine j_bipush (q := 34) (v := (10 : Int32)) hx (dc kX1_weightOf_0 18 rfl) (by decide) rfl ?_
          refine j_aload_n (q := 35) hx (dc kX1_weightOf_0 19 rfl) rfl 0 rfl rfl ?_
          refine w_gR (q := 38) hx (dc kX1_weightOf_0 20 rfl) ff_X1_6 lk_X1_11 rfl (fun v4 => ?_)
          refine j_iload_n (q := 39) hx (dc kX1_weightOf_0 21 rfl) rfl 3 rfl rfl ?_
          refine w_cSIR (q := 42) (As := [vR x.2.2.2 v4, .int x3]) (st := [.int (10 : Int32), .int x2]) hx (dc kX1_weightOf_0 22 rfl) (cI _ my_X11_at lm_X1_89 (by decide)) st_X11_at rfl (fun u hu => sX11_at _ _ _ _ _ _ hu) (sum_le (sum_I (sum_I sum_nil)) (by decide)) rfl (fun v5 => ?_)
          refine j_isub (q := 43) hx (dc kX1_weightOf_0 23 rfl) rfl ?_
          exact j_sub [0, 1, 3] rfl (hb43 x0 x1 x3 x2 ((10 : Int32) - v5))
        · refine j_aload_n (q := 22) hx (dc kX1_weightOf_0 13 rfl) rfl 0 rfl rfl ?_
          refine w_gR (q := 25) hx (dc kX1_weightOf_0 14 rfl) ff_X1_6 lk_X1_11 rfl (fun v7 => ?_)
          refine j_iload_n (q := 26) hx (dc kX1_weightOf_0 15 rfl) rfl 3 rfl rfl ?_
          refine w_cSIR (q := 29) (As := [vR x.2.2.2 v7, .int x3]) (st := [.int x2]) hx (dc kX1_weightOf_0 16 rfl) (cI _ my_X11_at lm_X1_89 (by decide)) st_X11_at rfl (fun u hu => sX11_at _ _ _ _ _ _ hu) (sum_le (sum_I sum_nil) (by decide)) rfl (fun v8 => ?_)
          refine j_goto (q := 43) hx (dc kX1_weightOf_0 17 rfl) (by decide) ?_
          exact j_sub [0, 1, 3] rfl (hb43 x0 x1 x3 x2 v8)
    exact j_loop (S := (Int32 × Int32)) (lvf := fun s => [(0, vR x.2.2.2 x0), (1, .int x1), (2, .int s.1), (3, .int s.2)]) (hpf := fun s => h) (f := (fun s : (Int32 × Int32) => mX1_weightOf_l4f x0 x1 h s.1 s.2)) (fun s => hB s.1 s.2) (x2, x3)
  unfold mX1_weightOf
  refine J.ckd fun hck => ?_
  refine j_iconst (q := 1) (v := (1 : Int32)) hx (dc kX1_weightOf_0 0 rfl) (by decide) rfl ?_
  refine j_istore_n (q := 2) (i := 2) (l2 := [(0, vR x.2.2.2 x0), (1, .int x1)]) hx (dc kX1_weightOf_0 1 rfl) rfl (hn 2 (by decide)) [0, 1] rfl ⟨⟨show (0 : Nat) ≠ 2 by decide, Or.inl (show (0 : Nat) + 1 ≠ 2 by decide)⟩, ⟨⟨show (1 : Nat) ≠ 2 by decide, Or.inr rfl⟩, trivial⟩⟩ rfl ?_
  refine j_iconst (q := 3) (v := (0 : Int32)) hx (dc kX1_weightOf_0 2 rfl) (by decide) rfl ?_
  refine j_istore_n (q := 4) (i := 3) (l2 := [(2, .int (1 : Int32)), (0, vR x.2.2.2 x0), (1, .int x1)]) hx (dc kX1_weightOf_0 3 rfl) rfl (hn 3 (by decide)) [0, 1, 2] rfl ⟨⟨show (2 : Nat) ≠ 3 by decide, Or.inr rfl⟩, ⟨⟨show (0 : Nat) ≠ 3 by decide, Or.inl (show (0 : Nat) + 1 ≠ 3 by decide)⟩, ⟨⟨show (1 : Nat) ≠ 3 by decide, Or.inl (show (1 : Nat) + 1 ≠ 3 by decide)⟩, trivial⟩⟩⟩ rfl ?_
  exact j_sub [2, 3, 1, 0] rfl (hb4 x0 x1 (1 : Int32) (0 : Int32))

set_option maxHeartbeats 4000000 in
set_option maxRecDepth 100000 in
theorem sX11_put (l : Launch) (w : Wd) (x0 : Nat) (x1 : Int32) (x2 : Int32) (h : Hp) (u : Hp) (hK : mX11_put x0 x1 x2 h = some u) : M1 l w mi_X11_put 1 [vR w x0, .int x1, .int x2] h u (none) := by
  refine M1.of (own := RX11) (T := fun _ r => r = u) hK (by decide +kernel) rfl (by first | (simp only [lg_lenR, lg_lenI, lg_lenL, lg_len0]; decide) | decide) (fun x hx hnl hhf hl hw hret hnm hQ h0e => ⟨?_, rfl⟩)
  subst hw
  subst hl
  have hR : Rt x h u (none) (none) := ⟨h0e, hhf, hret, hQ⟩
  have hn : ∀ i, i < 3 → i < x.2.2.1.1.1 := fun i hi => by rw [hnl]; exact hi
  have e0 : lv_args 0 [vR x.2.2.2 x0, .int x1, .int x2] = [(0, vR x.2.2.2 x0), (1, .int x1), (2, .int x2)] := by simp only [lv_argsR, lv_argsI, lv_argsL, lv_args0]
  rw [e0]
  unfold mX11_put
  refine j_iload_n (q := 1) hx (dc kX11_put_0 0 rfl) rfl 1 rfl rfl ?_
  refine j_if_lt (q := 4) (tgt := 14) hx (dc kX11_put_0 1 rfl) (by decide) Iff.rfl rfl ?_ ?_
  · exact r_vW hx hR (dc kX11_put_0 10 rfl)
  · refine j_iload_n (q := 5) hx (dc kX11_put_0 2 rfl) rfl 1 rfl rfl ?_
    refine j_aload_n (q := 6) hx (dc kX11_put_0 3 rfl) rfl 0 rfl rfl ?_
    refine j_alen (q := 7) hx (dc kX11_put_0 4 rfl) rfl (fun v1 => ?_)
    refine j_icmp_geS (q := 10) (tgt := 14) hx (dc kX11_put_0 5 rfl) (by decide) rfl ?_ ?_
    · exact r_vW hx hR (dc kX11_put_0 10 rfl)
    · refine j_aload_n (q := 11) hx (dc kX11_put_0 6 rfl) rfl 0 rfl rfl ?_
      refine j_iload_n (q := 12) hx (dc kX11_put_0 7 rfl) rfl 1 rfl rfl ?_
      refine j_iload_n (q := 13) hx (dc kX11_put_0 8 rfl) rfl 2 rfl rfl ?_
      refine w_stI (q := 14) hx (dc kX11_put_0 9 rfl) rfl (fun h2 => ?_)
      exact r_vW hx hR (dc kX11_put_0 10 rfl)

set_option maxHeartbeats 4000000 in
set_option maxRecDepth 100000 in
theorem sX1_finish (l : Launch) (w : Wd) (x0 : Nat) (x1 : Nat) (h : Hp) (u : Hp) (hK : mX1_finish x0 x1 h = some u) : M1 l w mi_X1_finish 5 [vR w x0, vR w x1] h u (none) := by
  refine M1.of (own := RX1) (T := fun _ r => r = u) hK (by decide +kernel) rfl (by first | (simp only [lg_lenR, lg_lenI, lg_lenL, lg_len0]; decide) | decide) (fun x hx hnl hhf hl hw hret hnm hQ h0e => ⟨?_, rfl⟩)
  subst hw
  subst hl
  have hR : Rt x h u (none) (none) := ⟨h0e, hhf, hret, hQ⟩
  have hn : ∀ i, i < 3 → i < x.2.2.1.1.1 := fun i hi => by rw [hnl]; exact hi
  have e0 : lv_args 0 [vR x.2.2.2 x0, vR x.2.2.2 x1] = [(0, vR x.2.2.2 x0), (1, vR x.2.2.2 x1)] := by simp only [lv_argsR, lv_argsI, lv_argsL, lv_args0]
  rw [e0]
  have hb103 : ∀ (x0 : Nat) (x2 : Int32) (h : Hp), J x 103 [(0, vR x.2.2.2 x0), (2, .int x2)] [] h (mX1_finish_l103 x0 x2 h) (fun r => r = u) := by
    intro x0 x2 h
    have hB : ∀ (x2 : Int32) (h : Hp), J x 103 [(0, vR x.2.2.2 x0), (2, .int x2)] [] h (mX1_finish_l103f x0 x2 h) (TLo (S := (Int32 × Hp)) x 103 (fun s => [(0, vR x.2.2.2 x0), (2, .int s.1)]) [] (fun s => s.2) (fun r => r = u)) := by
      intro x2 h
      unfold mX1_finish_l103f
      refine j_iload_n (q := 104) hx (dc kX1_finish_0 52 rfl) rfl 1 rfl rfl ?_
      refine j_sipush (q := 107) (v := (256 : Int32)) hx (dc kX1_finish_0 53 rfl) (by decide) rfl ?_
      refine j_icmp_geS (q := 110) (tgt := 129) hx (dc kX1_finish_0 54 rfl) (by decide) rfl ?_ ?_
      · refine j_exit ?_
        exact r_vW hx hR (dc kX1_finish_1 0 rfl)
      · refine j_aload_n (q := 111) hx (dc kX1_finish_0 55 rfl) rfl 0 rfl rfl ?_
        refine w_gR (q := 114) hx (dc kX1_finish_0 56 rfl) ff_X1_16 lk_X1_39 rfl (fun v9 => ?_)
        refine j_iload_n (q := 115) hx (dc kX1_finish_0 57 rfl) rfl 1 rfl rfl ?_
        refine j_aload_n (q := 116) hx (dc kX1_finish_0 58 rfl) rfl 0 rfl rfl ?_
        refine j_iload_n (q := 117) hx (dc kX1_finish_0 59 rfl) rfl 1 rfl rfl ?_
        refine w_cVIR (q := 120) (As := [.int x2]) (st := [.int x2, vR x.2.2.2 v9]) hx (dc kX1_finish_0 60 rfl) cf1 (by decide) rfl (cI _ my_X1_weightOf lm_X1_110 (by decide)) vs_X1_weightOf rfl (fun u hu => sX1_weightOf _ _ _ _ _ _ hu) (fun e => ite_ne (by unfold mX1_weightOf at e; exact e)) (sum_le (sum_I (sum_R sum_nil)) (by decide)) rfl (fun v10 => ?_)
        refine w_cSVW (q := 123) (As := [vR x.2.2.2 v9, .int x2, .int v10]) (st := []) hx (dc kX1_finish_0 61 rfl) (cI _ my_X11_put lm_X1_114 (by decide)) st_X11_put rfl (fun u hu => sX11_put _ _ _ _ _ _ _ hu) (Nat.zero_le _) rfl (fun h13 => ?_)
        refine j_iinc (q := 126) (l2 := [(0, vR x.2.2.2 x0)]) hx (dc kX1_finish_0 62 rfl) 1 rfl (v := (1 : Int32)) (by decide) (hn 2 (by decide)) [0] rfl ⟨⟨show (0 : Nat) ≠ 2 by decide, Or.inl (show (0 : Nat) + 1 ≠ 2 by decide)⟩, trivial⟩ rfl ?_
        refine j_goto (q := 103) hx (dc kX1_finish_0 63 rfl) (by decide) ?_
        exact j_back [1, 0] ((x2 + (1 : Int32)), h13) rfl rfl
    exact j_loop (S := (Int32 × Hp)) (lvf := fun s => [(0, vR x.2.2.2 x0), (2, .int s.1)]) (hpf := fun s => s.2) (f := (fun s : (Int32 × Hp) => mX1_finish_l103f x0 s.1 s.2)) (fun s => hB s.1 s.2) (x2, h)
  have hb77 : ∀ (x0 : Nat) (x2 : Int32) (h : Hp), J x 77 [(0, vR x.2.2.2 x0), (2, .int x2)] [] h (mX1_finish_l77 x0 x2 h) (fun r => r = u) := by
    intro x0 x2 h
    have hB : ∀ (x2 : Int32) (h : Hp), J x 77 [(0, vR x.2.2.2 x0), (2, .int x2)] [] h (mX1_finish_l77f x0 x2 h) (TLo (S := (Int32 × Hp)) x 77 (fun s => [(0, vR x.2.2.2 x0), (2, .int s.1)]) [] (fun s => s.2) (fun r => r = u)) := by
      intro x2 h
      unfold mX1_finish_l77f
      refine j_iload_n (q := 78) hx (dc kX1_finish_0 38 rfl) rfl 1 rfl rfl ?_
      refine j_aload_n (q := 79) hx (dc kX1_finish_0 39 rfl) rfl 0 rfl rfl ?_
      refine w_gI (q := 82) hx (dc kX1_finish_0 40 rfl) ff_X1_2 lk_X1_63 rfl (fun v8 => ?_)
      refine j_icmp_geS (q := 85) (tgt := 101) hx (dc kX1_finish_0 41 rfl) (by decide) rfl ?_ ?_
      · refine j_exit ?_
        refine j_iconst (q := 102) (v := (0 : Int32)) hx (dc kX1_finish_0 50 rfl) (by decide) rfl ?_
        refine j_istore_n (q := 103) (i := 2) (l2 := [(0, vR x.2.2.2 x0)]) hx (dc kX1_finish_0 51 rfl) rfl (hn 2 (by decide)) [0] rfl ⟨⟨show (0 : Nat) ≠ 2 by decide, Or.inl (show (0 : Nat) + 1 ≠ 2 by decide)⟩, trivial⟩ rfl ?_
        exact j_sub [1, 0] rfl (hb103 x0 (0 : Int32) h)
      · refine j_aload_n (q := 86) hx (dc kX1_finish_0 42 rfl) rfl 0 rfl rfl ?_
        refine j_iload_n (q := 87) hx (dc kX1_finish_0 43 rfl) rfl 1 rfl rfl ?_
        refine j_aload_n (q := 88) hx (dc kX1_finish_0 44 rfl) rfl 0 rfl rfl ?_
        refine j_iload_n (q := 89) hx (dc kX1_finish_0 45 rfl) rfl 1 rfl rfl ?_
        refine w_cVRR (q := 92) (As := [.int x2]) (st := [.int x2, vR x.2.2.2 x0]) hx (dc kX1_finish_0 46 rfl) cf1 (by decide) rfl (cI _ my_X1_wonBy lm_X1_103 (by decide)) vs_X1_wonBy rfl (fun u hu => sX1_wonBy _ _ _ _ _ _ hu) (fun e => ite_ne (by unfold mX1_wonBy at e; exact e)) (sum_le (sum_I (sum_R sum_nil)) (by decide)) rfl (fun v14 => ?_)
        refine w_cVVW (q := 95) (As := [.int x2, vR x.2.2.2 v14]) (st := []) hx (dc kX1_finish_0 47 rfl) cf1 (by decide) rfl (cI _ my_X1_finishWon lm_X1_106 (by decide)) vs_X1_finishWon rfl (fun u hu => sX1_finishWon _ _ _ _ _ _ _ hu) (fun e => ite_ne (by unfold mX1_finishWon at e; exact e)) (Nat.zero_le _) rfl (fun h17 => ?_)
        refine j_iinc (q := 98) (l2 := [(0, vR x.2.2.2 x0)]) hx (dc kX1_finish_0 48 rfl) 1 rfl (v := (1 : Int32)) (by decide) (hn 2 (by decide)) [0] rfl ⟨⟨show (0 : Nat) ≠ 2 by decide, Or.inl (show (0 : Nat) + 1 ≠ 2 by decide)⟩, trivial⟩ rfl ?_
        refine j_goto (q := 77) hx (dc kX1_finish_0 49 rfl) (by decide) ?_
        exact j_back [1, 0] ((x2 + (1 : Int32)), h17) rfl rfl
    exact j_loop (S := (Int32 × Hp)) (lvf := fun s => [(0, vR x.2.2.2 x0), (2, .int s.1)]) (hpf := fun s => s.2) (f := (fun s : (Int32 × Hp) => mX1_finish_l77f x0 s.1 s.2)) (fun s => hB s.1 s.2) (x2, h)
  have hb34 : ∀ (x0 : Nat) (x1 : Nat) (x2 : Int32) (h : Hp), J x 34 [(0, vR x.2.2.2 x0), (1, vR x.2.2.2 x1), (2, .int x2)] [] h (mX1_finish_l34 x0 x1 x2 h) (fun r => r = u) := by
    intro x0 x1 x2 h
    have hB : ∀ (x2 : Int32) (h : Hp), J x 34 [(0, vR x.2.2.2 x0), (1, vR x.2.2.2 x1), (2, .int x2)] [] h (mX1_finish_l34f x0 x1 x2 h) (TLo (S := (Int32 × Hp)) x 34 (fun s => [(0, vR x.2.2.2 x0), (1, vR x.2.2.2 x1), (2, .int s.1)]) [] (fun s => s.2) (fun r => r = u)) := by
      intro x2 h
      unfold mX1_finish_l34f
      refine j_iload_n (q := 35) hx (dc kX1_finish_0 16 rfl) rfl 2 rfl rfl ?_
      refine j_bipush (q := 37) (v := (26 : Int32)) hx (dc kX1_finish_0 17 rfl) (by decide) rfl ?_
      refine j_icmp_geS (q := 40) (tgt := 75) hx (dc kX1_finish_0 18 rfl) (by decide) rfl ?_ ?_
      · refine j_exit ?_
        refine j_iconst (q := 76) (v := (0 : Int32)) hx (dc kX1_finish_0 36 rfl) (by decide) rfl ?_
        refine j_istore_n (q := 77) (i := 2) (l2 := [(0, vR x.2.2.2 x0)]) hx (dc kX1_finish_0 37 rfl) rfl (hn 2 (by decide)) [0] rfl ⟨⟨show (0 : Nat) ≠ 2 by decide, Or.inl (show (0 : Nat) + 1 ≠ 2 by decide)⟩, trivial⟩ rfl ?_
        exact j_sub [1, 0] rfl (hb77 x0 (0 : Int32) h)
      · refine j_aload_n (q := 41) hx (dc kX1_finish_0 19 rfl) rfl 1 rfl rfl ?_
        refine j_aload_n (q := 42) hx (dc kX1_finish_0 20 rfl) rfl 0 rfl rfl ?_
        refine w_gR (q := 45) hx (dc kX1_finish_0 21 rfl) ff_X1_12 lk_X1_30 rfl (fun v18 => ?_)
        refine j_aload_n (q := 46) hx (dc kX1_finish_0 22 rfl) rfl 0 rfl rfl ?_
        refine w_gR (q := 49) hx (dc kX1_finish_0 23 rfl) ff_X1_14 lk_X1_33 rfl (fun v19 => ?_)
        refine j_iload_n (q := 50) hx (dc kX1_finish_0 24 rfl) rfl 2 rfl rfl ?_
        refine w_cSIR (q := 53) (As := [vR x.2.2.2 v19, .int x2]) (st := [vR x.2.2.2 v18, vR x.2.2.2 x1]) hx (dc kX1_finish_0 25 rfl) (cI _ my_X11_at lm_X1_89 (by decide)) st_X11_at rfl (fun u hu => sX11_at _ _ _ _ _ _ hu) (sum_le (sum_R (sum_R sum_nil)) (by decide)) rfl (fun v20 => ?_)
        refine j_aload_n (q := 54) hx (dc kX1_finish_0 26 rfl) rfl 0 rfl rfl ?_
        refine w_gR (q := 57) hx (dc kX1_finish_0 27 rfl) ff_X1_15 lk_X1_36 rfl (fun v22 => ?_)
        refine j_iload_n (q := 58) hx (dc kX1_finish_0 28 rfl) rfl 2 rfl rfl ?_
        refine w_cSIR (q := 61) (As := [vR x.2.2.2 v22, .int x2]) (st := [.int v20, vR x.2.2.2 v18, vR x.2.2.2 x1]) hx (dc kX1_finish_0 29 rfl) (cI _ my_X11_at lm_X1_89 (by decide)) st_X11_at rfl (fun u hu => sX11_at _ _ _ _ _ _ hu) (sum_le (sum_I (sum_R (sum_R sum_nil))) (by decide)) rfl (fun v23 => ?_)
        refine j_aload_n (q := 62) hx (dc kX1_finish_0 30 rfl) rfl 0 rfl rfl ?_
        refine j_iload_n (q := 63) hx (dc kX1_finish_0 31 rfl) rfl 2 rfl rfl ?_
        refine w_cVRR (q := 66) (As := [.int x2]) (st := [.int v23, .int v20, vR x.2.2.2 v18, vR x.2.2.2 x1]) hx (dc kX1_finish_0 32 rfl) cf1 (by decide) rfl (cI _ my_X1_table lm_X1_93 (by decide)) vs_X1_table rfl (fun u hu => sX1_table _ _ _ _ _ _ hu) (fun e => ite_ne (by unfold mX1_table at e; exact e)) (sum_le (sum_I (sum_I (sum_R (sum_R sum_nil)))) (by decide)) rfl (fun v25 => ?_)
        refine w_cVVW (q := 69) (As := [vR x.2.2.2 v18, .int v20, .int v23, vR x.2.2.2 v25]) (st := []) hx (dc kX1_finish_0 33 rfl) cf4 (by decide) rfl (cI _ my_X4_tabulate lm_X1_97 (by decide)) vs_X4_tabulate rfl (fun u hu => sX4_tabulate _ _ _ _ _ _ _ _ _ hu) (fun e => ite_ne (by unfold mX4_tabulate at e; exact e)) (Nat.zero_le _) rfl (fun h28 => ?_)
        refine j_iinc (q := 72) (l2 := [(0, vR x.2.2.2 x0), (1, vR x.2.2.2 x1)]) hx (dc kX1_finish_0 34 rfl) 2 rfl (v := (1 : Int32)) (by decide) (hn 2 (by decide)) [0, 1] rfl ⟨⟨show (0 : Nat) ≠ 2 by decide, Or.inl (show (0 : Nat) + 1 ≠ 2 by decide)⟩, ⟨⟨show (1 : Nat) ≠ 2 by decide, Or.inr (vR_cat _ _)⟩, trivial⟩⟩ rfl ?_
        refine j_goto (q := 34) hx (dc kX1_finish_0 35 rfl) (by decide) ?_
        exact j_back [1, 2, 0] ((x2 + (1 : Int32)), h28) rfl rfl
    exact j_loop (S := (Int32 × Hp)) (lvf := fun s => [(0, vR x.2.2.2 x0), (1, vR x.2.2.2 x1), (2, .int s.1)]) (hpf := fun s => s.2) (f := (fun s : (Int32 × Hp) => mX1_finish_l34f x0 x1 s.1 s.2)) (fun s => hB s.1 s.2) (x2, h)
  have hb18 : ∀ (x0 : Nat) (x1 : Nat) (t0 : Nat) (t1 : Int32) (h : Hp), J x 18 [(0, vR x.2.2.2 x0), (1, vR x.2.2.2 x1)] [.int t1, vR x.2.2.2 t0] h (mX1_finish_b18 x0 x1 t0 t1 h) (fun r => r = u) := by
    intro x0 x1 t0 t1 h
    unfold mX1_finish_b18
    refine w_sI (q := 21) hx (dc kX1_finish_0 8 rfl) ff_X1_5 rfl lk_X1_72 (Or.inl rfl) rfl (fun h3 => ?_)
    refine j_aload_n (q := 22) hx (dc kX1_finish_0 9 rfl) rfl 0 rfl rfl ?_
    refine w_gR (q := 25) hx (dc kX1_finish_0 10 rfl) ff_X1_17 lk_X1_45 rfl (fun v4 => ?_)
    refine j_aload_n (q := 26) hx (dc kX1_finish_0 11 rfl) rfl 0 rfl rfl ?_
    refine w_gI (q := 29) hx (dc kX1_finish_0 12 rfl) ff_X1_1 lk_X1_60 rfl (fun v5 => ?_)
    refine w_cVVW (q := 32) (As := [.int v5]) (st := []) hx (dc kX1_finish_0 13 rfl) cf10 (by decide) rfl (cI _ my_X10_keepFirst lm_X1_85 (by decide)) vs_X10_keepFirst rfl (fun u hu => sX10_keepFirst _ _ _ _ _ _ hu) (fun e => ite_ne (by unfold mX10_keepFirst at e; exact e)) (Nat.zero_le _) rfl (fun h7 => ?_)
    refine j_iconst (q := 33) (v := (0 : Int32)) hx (dc kX1_finish_0 14 rfl) (by decide) rfl ?_
    refine j_istore_n (q := 34) (i := 2) (l2 := [(0, vR x.2.2.2 x0), (1, vR x.2.2.2 x1)]) hx (dc kX1_finish_0 15 rfl) rfl (hn 2 (by decide)) [0, 1] rfl ⟨⟨show (0 : Nat) ≠ 2 by decide, Or.inl (show (0 : Nat) + 1 ≠ 2 by decide)⟩, ⟨⟨show (1 : Nat) ≠ 2 by decide, Or.inr (vR_cat _ _)⟩, trivial⟩⟩ rfl ?_
    exact j_sub [1, 2, 0] rfl (hb34 x0 x1 (0 : Int32) h7)
  unfold mX1_finish
  refine J.ckd fun hck => ?_
  refine j_aload_n (q := 1) hx (dc kX1_finish_0 0 rfl) rfl 0 rfl rfl ?_
  refine j_aload_n (q := 2) hx (dc kX1_finish_0 1 rfl) rfl 0 rfl rfl ?_
  refine w_gI (q := 5) hx (dc kX1_finish_0 2 rfl) ff_X1_5 lk_X1_72 rfl (fun v1 => ?_)
  refine j_if_neS (q := 8) (tgt := 14) hx (dc kX1_finish_0 3 rfl) (by decide) rfl ?_ ?_
  · refine j_aload_n (q := 15) hx (dc kX1_finish_0 6 rfl) rfl 0 rfl rfl ?_
    refine w_gI (q := 18) hx (dc kX1_finish_0 7 rfl) ff_X1_5 lk_X1_72 rfl (fun v2 => ?_)
    exact hb18 x0 x1 x0 v2 h
  · refine j_sipush (q := 11) (v := (300 : Int32)) hx (dc kX1_finish_0 4 rfl) (by decide) rfl ?_
    refine j_goto (q := 18) hx (dc kX1_finish_0 5 rfl) (by decide) ?_
    exact hb18 x0 x1 x0 (300 : Int32) h

set_option maxHeartbeats 4000000 in
set_option maxRecDepth 100000 in
theorem sX1_unite (l : Launch) (w : Wd) (x0 : Nat) (x1 : Int32) (x2 : Int32) (h : Hp) (u : Hp) (hK : mX1_unite x0 x1 x2 h = some u) : M1 l w mi_X1_unite 2 [vR w x0, .int x1, .int x2] h u (none) := by
  refine M1.of (own := RX1) (T := fun _ r => r = u) hK (by decide +kernel) rfl (by first | (simp only [lg_lenR, lg_lenI, lg_lenL, lg_len0]; decide) | decide) (fun x hx hnl hhf hl hw hret hnm hQ h0e => ⟨?_, rfl⟩)
  subst hw
  subst hl
  have hR : Rt x h u (none) (none) := ⟨h0e, hhf, hret, hQ⟩
  have hn : ∀ i, i < 4 → i < x.2.2.1.1.1 := fun i hi => by rw [hnl]; exact hi
  have e0 : lv_args 0 [vR x.2.2.2 x0, .int x1, .int x2] = [(0, vR x.2.2.2 x0), (1, .int x1), (2, .int x2)] := by simp only [lv_argsR, lv_argsI, lv_argsL, lv_args0]
  rw [e0]
  have hb2 : ∀ (x0 : Nat) (x1 : Int32) (x2 : Int32) (x3 : Int32) (h : Hp), J x 2 [(0, vR x.2.2.2 x0), (1, .int x1), (2, .int x2), (3, .int x3)] [] h (mX1_unite_l2 x0 x1 x2 x3 h) (fun r => r = u) := by
    intro x0 x1 x2 x3 h
    have hB : ∀ (x3 : Int32) (h : Hp), J x 2 [(0, vR x.2.2.2 x0), (1, .int x1), (2, .int x2), (3, .int x3)] [] h (mX1_unite_l2f x0 x1 x2 x3 h) (TLo (S := (Int32 × Hp)) x 2 (fun s => [(0, vR x.2.2.2 x0), (1, .int x1), (2, .int x2), (3, .int s.1)]) [] (fun s => s.2) (fun r => r = u)) := by
      intro x3 h
      have hb47 : ∀ (x0 : Nat) (x1 : Int32) (x2 : Int32) (x3 : Int32) (h : Hp), J x 47 [(0, vR x.2.2.2 x0), (1, .int x1), (2, .int x2), (3, .int x3)] [] h (mX1_unite_b47 x0 x1 x2 x3 h) (TLo (S := (Int32 × Hp)) x 2 (fun s => [(0, vR x.2.2.2 x0), (1, .int x1), (2, .int x2), (3, .int s.1)]) [] (fun s => s.2) (fun r => r = u)) := by
        intro x0 x1 x2 x3 h
        unfold mX1_unite_b47
        refine j_iinc (q := 50) (l2 := [(0, vR x.2.2.2 x0), (1, .int x1), (2, .int x2)]) hx (dc kX1_unite_0 25 rfl) 3 rfl (v := (1 : Int32)) (by decide) (hn 3 (by decide)) [0, 1, 2] rfl ⟨⟨show (0 : Nat) ≠ 3 by decide, Or.inl (show (0 : Nat) + 1 ≠ 3 by decide)⟩, ⟨⟨show (1 : Nat) ≠ 3 by decide, Or.inl (show (1 : Nat) + 1 ≠ 3 by decide)⟩, ⟨⟨show (2 : Nat) ≠ 3 by decide, Or.inr rfl⟩, trivial⟩⟩⟩ rfl ?_
        refine j_goto (q := 2) hx (dc kX1_unite_0 26 rfl) (by decide) ?_
        exact j_back [1, 2, 3, 0] ((x3 + (1 : Int32)), h) rfl rfl
      have hb34 : ∀ (x0 : Nat) (x1 : Int32) (x2 : Int32) (x3 : Int32) (h : Hp), J x 34 [(0, vR x.2.2.2 x0), (1, .int x1), (2, .int x2), (3, .int x3)] [] h (mX1_unite_b34 x0 x1 x2 x3 h) (TLo (S := (Int32 × Hp)) x 2 (fun s => [(0, vR x.2.2.2 x0), (1, .int x1), (2, .int x2), (3, .int s.1)]) [] (fun s => s.2) (fun r => r = u)) := by
        intro x0 x1 x2 x3 h
        unfold mX1_unite_b34
        refine j_aload_n (q := 35) hx (dc kX1_unite_0 18 rfl) rfl 0 rfl rfl ?_
        refine w_gR (q := 38) hx (dc kX1_unite_0 19 rfl) ff_X1_11 lk_X1_27 rfl (fun v5 => ?_)
        refine j_iload_n (q := 39) hx (dc kX1_unite_0 20 rfl) rfl 3 rfl rfl ?_
        refine j_iload_n (q := 40) hx (dc kX1_unite_0 21 rfl) rfl 1 rfl rfl ?_
        refine j_iload_n (q := 41) hx (dc kX1_unite_0 22 rfl) rfl 2 rfl rfl ?_
        refine w_mmin (q := 44) hx (dc kX1_unite_0 23 rfl) lm_X1_133 ms_mmin ms_init mc_mmin (by decide) (sum_le (sum_I (sum_R sum_nil)) (by decide)) rfl ?_
        refine w_cSVW (q := 47) (As := [vR x.2.2.2 v5, .int x3, .int (mmin x1 x2)]) (st := []) hx (dc kX1_unite_0 24 rfl) (cI _ my_X11_put lm_X1_114 (by decide)) st_X11_put rfl (fun u hu => sX11_put _ _ _ _ _ _ _ hu) (Nat.zero_le _) rfl (fun h7 => ?_)
        exact hb47 x0 x1 x2 x3 h7
      unfold mX1_unite_l2f
      refine j_iload_n (q := 3) hx (dc kX1_unite_0 2 rfl) rfl 3 rfl rfl ?_
      refine j_aload_n (q := 4) hx (dc kX1_unite_0 3 rfl) rfl 0 rfl rfl ?_
      refine w_gI (q := 7) hx (dc kX1_unite_0 4 rfl) ff_X1_2 lk_X1_63 rfl (fun v1 => ?_)
      refine j_icmp_geS (q := 10) (tgt := 53) hx (dc kX1_unite_0 5 rfl) (by decide) rfl ?_ ?_
      · refine j_exit ?_
        exact r_vW hx hR (dc kX1_unite_0 27 rfl)
      · refine j_aload_n (q := 11) hx (dc kX1_unite_0 6 rfl) rfl 0 rfl rfl ?_
        refine w_gR (q := 14) hx (dc kX1_unite_0 7 rfl) ff_X1_11 lk_X1_27 rfl (fun v2 => ?_)
        refine j_iload_n (q := 15) hx (dc kX1_unite_0 8 rfl) rfl 3 rfl rfl ?_
        refine w_cSIR (q := 18) (As := [vR x.2.2.2 v2, .int x3]) (st := []) hx (dc kX1_unite_0 9 rfl) (cI _ my_X11_at lm_X1_89 (by decide)) st_X11_at rfl (fun u hu => sX11_at _ _ _ _ _ _ hu) (Nat.zero_le _) rfl (fun v3 => ?_)
        refine j_iload_n (q := 19) hx (dc kX1_unite_0 10 rfl) rfl 1 rfl rfl ?_
        refine j_icmp_eq (q := 22) (tgt := 34) hx (dc kX1_unite_0 11 rfl) (by decide) Iff.rfl rfl ?_ ?_
        · exact hb34 x0 x1 x2 x3 h
        · refine j_aload_n (q := 23) hx (dc kX1_unite_0 12 rfl) rfl 0 rfl rfl ?_
          refine w_gR (q := 26) hx (dc kX1_unite_0 13 rfl) ff_X1_11 lk_X1_27 rfl (fun v8 => ?_)
          refine j_iload_n (q := 27) hx (dc kX1_unite_0 14 rfl) rfl 3 rfl rfl ?_
          refine w_cSIR (q := 30) (As := [vR x.2.2.2 v8, .int x3]) (st := []) hx (dc kX1_unite_0 15 rfl) (cI _ my_X11_at lm_X1_89 (by decide)) st_X11_at rfl (fun u hu => sX11_at _ _ _ _ _ _ hu) (Nat.zero_le _) rfl (fun v9 => ?_)
          refine j_iload_n (q := 31) hx (dc kX1_unite_0 16 rfl) rfl 2 rfl rfl ?_
          refine j_icmp_neS (q := 34) (tgt := 47) hx (dc kX1_unite_0 17 rfl) (by decide) rfl ?_ ?_
          · exact hb47 x0 x1 x2 x3 h
          · exact hb34 x0 x1 x2 x3 h
    exact j_loop (S := (Int32 × Hp)) (lvf := fun s => [(0, vR x.2.2.2 x0), (1, .int x1), (2, .int x2), (3, .int s.1)]) (hpf := fun s => s.2) (f := (fun s : (Int32 × Hp) => mX1_unite_l2f x0 x1 x2 s.1 s.2)) (fun s => hB s.1 s.2) (x3, h)
  unfold mX1_unite
  refine J.ckd fun hck => ?_
  refine j_iconst (q := 1) (v := (0 : Int32)) hx (dc kX1_unite_0 0 rfl) (by decide) rfl ?_
  refine j_istore_n (q := 2) (i := 3) (l2 := [(0, vR x.2.2.2 x0), (1, .int x1), (2, .int x2)]) hx (dc kX1_unite_0 1 rfl) rfl (hn 3 (by decide)) [0, 1, 2] rfl ⟨⟨show (0 : Nat) ≠ 3 by decide, Or.inl (show (0 : Nat) + 1 ≠ 3 by decide)⟩, ⟨⟨show (1 : Nat) ≠ 3 by decide, Or.inl (show (1 : Nat) + 1 ≠ 3 by decide)⟩, ⟨⟨show (2 : Nat) ≠ 3 by decide, Or.inr rfl⟩, trivial⟩⟩⟩ rfl ?_
  exact j_sub [1, 2, 3, 0] rfl (hb2 x0 x1 x2 (0 : Int32) h)

set_option maxHeartbeats 4000000 in
set_option maxRecDepth 100000 in
theorem sX1_emit (l : Launch) (w : Wd) (x0 : Nat) (x1 : Int32) (h : Hp) (u : Hp) (hK : mX1_emit x0 x1 h = some u) : M1 l w mi_X1_emit 2 [vR w x0, .int x1] h u (none) := by
  refine M1.of (own := RX1) (T := fun _ r => r = u) hK (by decide +kernel) rfl (by first | (simp only [lg_lenR, lg_lenI, lg_lenL, lg_len0]; decide) | decide) (fun x hx hnl hhf hl hw hret hnm hQ h0e => ⟨?_, rfl⟩)
  subst hw
  subst hl
  have hR : Rt x h u (none) (none) := ⟨h0e, hhf, hret, hQ⟩
  have hn : ∀ i, i < 2 → i < x.2.2.1.1.1 := fun i hi => by rw [hnl]; exact hi
  have e0 : lv_args 0 [vR x.2.2.2 x0, .int x1] = [(0, vR x.2.2.2 x0), (1, .int x1)] := by simp only [lv_argsR, lv_argsI, lv_argsL, lv_args0]
  rw [e0]
  unfold mX1_emit
  refine J.ckd fun hck => ?_
  refine j_aload_n (q := 1) hx (dc kX1_emit_0 0 rfl) rfl 0 rfl rfl ?_
  refine w_gR (q := 4) hx (dc kX1_emit_0 1 rfl) ff_X1_12 lk_X1_30 rfl (fun v1 => ?_)
  refine j_aload_n (q := 5) hx (dc kX1_emit_0 2 rfl) rfl 0 rfl rfl ?_
  refine w_gI (q := 8) hx (dc kX1_emit_0 3 rfl) ff_X1_13 lk_X1_75 rfl (fun v2 => ?_)
  refine j_iload_n (q := 9) hx (dc kX1_emit_0 4 rfl) rfl 1 rfl rfl ?_
  refine w_cSVW (q := 12) (As := [vR x.2.2.2 v1, .int v2, .int x1]) (st := []) hx (dc kX1_emit_0 5 rfl) (cI _ my_X11_put lm_X1_114 (by decide)) st_X11_put rfl (fun u hu => sX11_put _ _ _ _ _ _ _ hu) (Nat.zero_le _) rfl (fun h4 => ?_)
  refine j_aload_n (q := 13) hx (dc kX1_emit_0 6 rfl) rfl 0 rfl rfl ?_
  refine j_dup (q := 14) hx (dc kX1_emit_0 7 rfl) (vR_cat _ _) rfl ?_
  refine w_gI (q := 17) hx (dc kX1_emit_0 8 rfl) ff_X1_13 lk_X1_75 rfl (fun v5 => ?_)
  refine j_iconst (q := 18) (v := (1 : Int32)) hx (dc kX1_emit_0 9 rfl) (by decide) rfl ?_
  refine j_iadd (q := 19) hx (dc kX1_emit_0 10 rfl) rfl ?_
  refine w_sI (q := 22) hx (dc kX1_emit_0 11 rfl) ff_X1_13 rfl lk_X1_75 (Or.inl rfl) rfl (fun h6 => ?_)
  exact r_vW hx hR (dc kX1_emit_0 12 rfl)

set_option maxHeartbeats 4000000 in
set_option maxRecDepth 100000 in
theorem sX1_factNamed (l : Launch) (w : Wd) (x0 : Nat) (x1 : Int32) (h : Hp) (u : Int32) (hK : mX1_factNamed x0 x1 h = some u) : M1 l w mi_X1_factNamed 1 [vR w x0, .int x1] h h (some (.int u)) := by
  refine M1.of (own := RX1) (T := fun _ r => r = u) hK (by decide +kernel) rfl (by first | (simp only [lg_lenR, lg_lenI, lg_lenL, lg_len0]; decide) | decide) (fun x hx hnl hhf hl hw hret hnm hQ h0e => ⟨?_, rfl⟩)
  subst hw
  subst hl
  have hR : Rt x h h (some (.int u)) ((some .int)) := ⟨h0e, hhf, hret, hQ⟩
  have hn : ∀ i, i < 3 → i < x.2.2.1.1.1 := fun i hi => by rw [hnl]; exact hi
  have e0 : lv_args 0 [vR x.2.2.2 x0, .int x1] = [(0, vR x.2.2.2 x0), (1, .int x1)] := by simp only [lv_argsR, lv_argsI, lv_argsL, lv_args0]
  rw [e0]
  have hb2 : ∀ (x0 : Nat) (x1 : Int32) (x2 : Int32), J x 2 [(0, vR x.2.2.2 x0), (1, .int x1), (2, .int x2)] [] h (mX1_factNamed_l2 x0 x1 x2 h) (fun r => r = u) := by
    intro x0 x1 x2
    have hB : ∀ (x2 : Int32), J x 2 [(0, vR x.2.2.2 x0), (1, .int x1), (2, .int x2)] [] h (mX1_factNamed_l2f x0 x1 h x2) (TLo (S := Int32) x 2 (fun s => [(0, vR x.2.2.2 x0), (1, .int x1), (2, .int s)]) [] (fun s => h) (fun r => r = u)) := by
      intro x2
      unfold mX1_factNamed_l2f
      refine j_iload_n (q := 3) hx (dc kX1_factNamed_0 2 rfl) rfl 2 rfl rfl ?_
      refine j_aload_n (q := 4) hx (dc kX1_factNamed_0 3 rfl) rfl 0 rfl rfl ?_
      refine w_gI (q := 7) hx (dc kX1_factNamed_0 4 rfl) ff_X1_1 lk_X1_60 rfl (fun v1 => ?_)
      refine j_icmp_geS (q := 10) (tgt := 37) hx (dc kX1_factNamed_0 5 rfl) (by decide) rfl ?_ ?_
      · refine j_exit ?_
        refine j_iconst (q := 38) (v := (-1 : Int32)) hx (dc kX1_factNamed_0 21 rfl) (by decide) rfl ?_
        exact r_iR hx hR (dc kX1_factNamed_0 22 rfl)
      · refine j_iload_n (q := 11) hx (dc kX1_factNamed_0 6 rfl) rfl 2 rfl rfl ?_
        refine j_aload_n (q := 12) hx (dc kX1_factNamed_0 7 rfl) rfl 0 rfl rfl ?_
        refine w_gR (q := 15) hx (dc kX1_factNamed_0 8 rfl) ff_X1_7 lk_X1_15 rfl (fun v2 => ?_)
        refine j_alen (q := 16) hx (dc kX1_factNamed_0 9 rfl) rfl (fun v3 => ?_)
        refine j_icmp_geS (q := 19) (tgt := 37) hx (dc kX1_factNamed_0 10 rfl) (by decide) rfl ?_ ?_
        · refine j_exit ?_
          refine j_iconst (q := 38) (v := (-1 : Int32)) hx (dc kX1_factNamed_0 21 rfl) (by decide) rfl ?_
          exact r_iR hx hR (dc kX1_factNamed_0 22 rfl)
        · refine j_aload_n (q := 20) hx (dc kX1_factNamed_0 11 rfl) rfl 0 rfl rfl ?_
          refine w_gR (q := 23) hx (dc kX1_factNamed_0 12 rfl) ff_X1_7 lk_X1_15 rfl (fun v4 => ?_)
          refine j_iload_n (q := 24) hx (dc kX1_factNamed_0 13 rfl) rfl 2 rfl rfl ?_
          refine j_ldI (q := 25) hx (dc kX1_factNamed_0 14 rfl) rfl (fun v5 => ?_)
          refine j_iload_n (q := 26) hx (dc kX1_factNamed_0 15 rfl) rfl 1 rfl rfl ?_
          refine j_icmp_neS (q := 29) (tgt := 31) hx (dc kX1_factNamed_0 16 rfl) (by decide) rfl ?_ ?_
          · refine j_iinc (q := 34) (l2 := [(0, vR x.2.2.2 x0), (1, .int x1)]) hx (dc kX1_factNamed_0 19 rfl) 2 rfl (v := (1 : Int32)) (by decide) (hn 2 (by decide)) [0, 1] rfl ⟨⟨show (0 : Nat) ≠ 2 by decide, Or.inl (show (0 : Nat) + 1 ≠ 2 by decide)⟩, ⟨⟨show (1 : Nat) ≠ 2 by decide, Or.inr rfl⟩, trivial⟩⟩ rfl ?_
            refine j_goto (q := 2) hx (dc kX1_factNamed_0 20 rfl) (by decide) ?_
            exact j_back [1, 2, 0] (x2 + (1 : Int32)) rfl rfl
          · refine j_exit ?_
            refine j_iload_n (q := 30) hx (dc kX1_factNamed_0 17 rfl) rfl 2 rfl rfl ?_
            exact r_iR hx hR (dc kX1_factNamed_0 18 rfl)
    exact j_loop (S := Int32) (lvf := fun s => [(0, vR x.2.2.2 x0), (1, .int x1), (2, .int s)]) (hpf := fun s => h) (f := (fun s : Int32 => mX1_factNamed_l2f x0 x1 h s)) (fun s => hB s) x2
  unfold mX1_factNamed
  refine J.ckd fun hck => ?_
  refine j_iconst (q := 1) (v := (0 : Int32)) hx (dc kX1_factNamed_0 0 rfl) (by decide) rfl ?_
  refine j_istore_n (q := 2) (i := 2) (l2 := [(0, vR x.2.2.2 x0), (1, .int x1)]) hx (dc kX1_factNamed_0 1 rfl) rfl (hn 2 (by decide)) [0, 1] rfl ⟨⟨show (0 : Nat) ≠ 2 by decide, Or.inl (show (0 : Nat) + 1 ≠ 2 by decide)⟩, ⟨⟨show (1 : Nat) ≠ 2 by decide, Or.inr rfl⟩, trivial⟩⟩ rfl ?_
  exact j_sub [1, 2, 0] rfl (hb2 x0 x1 (0 : Int32))

set_option maxHeartbeats 4000000 in
set_option maxRecDepth 100000 in
theorem sX1_countNamed (l : Launch) (w : Wd) (x0 : Nat) (x1 : Int32) (h : Hp) (u : Int32) (hK : mX1_countNamed x0 x1 h = some u) : M1 l w mi_X1_countNamed 1 [vR w x0, .int x1] h h (some (.int u)) := by
  refine M1.of (own := RX1) (T := fun _ r => r = u) hK (by decide +kernel) rfl (by first | (simp only [lg_lenR, lg_lenI, lg_lenL, lg_len0]; decide) | decide) (fun x hx hnl hhf hl hw hret hnm hQ h0e => ⟨?_, rfl⟩)
  subst hw
  subst hl
  have hR : Rt x h h (some (.int u)) ((some .int)) := ⟨h0e, hhf, hret, hQ⟩
  have hn : ∀ i, i < 3 → i < x.2.2.1.1.1 := fun i hi => by rw [hnl]; exact hi
  have e0 : lv_args 0 [vR x.2.2.2 x0, .int x1] = [(0, vR x.2.2.2 x0), (1, .int x1)] := by simp only [lv_argsR, lv_argsI, lv_argsL, lv_args0]
  rw [e0]
  have hb3 : ∀ (x0 : Nat) (x1 : Int32) (x2 : Int32), J x 3 [(0, vR x.2.2.2 x0), (1, .int x1), (2, .int x2)] [] h (mX1_countNamed_l3 x0 x1 x2 h) (fun r => r = u) := by
    intro x0 x1 x2
    have hB : ∀ (x2 : Int32), J x 3 [(0, vR x.2.2.2 x0), (1, .int x1), (2, .int x2)] [] h (mX1_countNamed_l3f x0 x1 h x2) (TLo (S := Int32) x 3 (fun s => [(0, vR x.2.2.2 x0), (1, .int x1), (2, .int s)]) [] (fun s => h) (fun r => r = u)) := by
      intro x2
      unfold mX1_countNamed_l3f
      refine j_iload_n (q := 4) hx (dc kX1_countNamed_0 2 rfl) rfl 2 rfl rfl ?_
      refine j_bipush (q := 6) (v := (8 : Int32)) hx (dc kX1_countNamed_0 3 rfl) (by decide) rfl ?_
      refine j_aload_n (q := 7) hx (dc kX1_countNamed_0 4 rfl) rfl 0 rfl rfl ?_
      refine w_gI (q := 10) hx (dc kX1_countNamed_0 5 rfl) ff_X1_2 lk_X1_63 rfl (fun v1 => ?_)
      refine j_iadd (q := 11) hx (dc kX1_countNamed_0 6 rfl) rfl ?_
      refine j_icmp_geS (q := 14) (tgt := 44) hx (dc kX1_countNamed_0 7 rfl) (by decide) rfl ?_ ?_
      · refine j_exit ?_
        refine j_iconst (q := 45) (v := (-1 : Int32)) hx (dc kX1_countNamed_0 25 rfl) (by decide) rfl ?_
        exact r_iR hx hR (dc kX1_countNamed_0 26 rfl)
      · refine j_iload_n (q := 15) hx (dc kX1_countNamed_0 8 rfl) rfl 2 rfl rfl ?_
        refine j_aload_n (q := 16) hx (dc kX1_countNamed_0 9 rfl) rfl 0 rfl rfl ?_
        refine w_gR (q := 19) hx (dc kX1_countNamed_0 10 rfl) ff_X1_7 lk_X1_15 rfl (fun v2 => ?_)
        refine j_alen (q := 20) hx (dc kX1_countNamed_0 11 rfl) rfl (fun v3 => ?_)
        refine j_icmp_geS (q := 23) (tgt := 44) hx (dc kX1_countNamed_0 12 rfl) (by decide) rfl ?_ ?_
        · refine j_exit ?_
          refine j_iconst (q := 45) (v := (-1 : Int32)) hx (dc kX1_countNamed_0 25 rfl) (by decide) rfl ?_
          exact r_iR hx hR (dc kX1_countNamed_0 26 rfl)
        · refine j_aload_n (q := 24) hx (dc kX1_countNamed_0 13 rfl) rfl 0 rfl rfl ?_
          refine w_gR (q := 27) hx (dc kX1_countNamed_0 14 rfl) ff_X1_7 lk_X1_15 rfl (fun v4 => ?_)
          refine j_iload_n (q := 28) hx (dc kX1_countNamed_0 15 rfl) rfl 2 rfl rfl ?_
          refine j_ldI (q := 29) hx (dc kX1_countNamed_0 16 rfl) rfl (fun v5 => ?_)
          refine j_iload_n (q := 30) hx (dc kX1_countNamed_0 17 rfl) rfl 1 rfl rfl ?_
          refine j_icmp_neS (q := 33) (tgt := 38) hx (dc kX1_countNamed_0 18 rfl) (by decide) rfl ?_ ?_
          · refine j_iinc (q := 41) (l2 := [(0, vR x.2.2.2 x0), (1, .int x1)]) hx (dc kX1_countNamed_0 23 rfl) 2 rfl (v := (1 : Int32)) (by decide) (hn 2 (by decide)) [0, 1] rfl ⟨⟨show (0 : Nat) ≠ 2 by decide, Or.inl (show (0 : Nat) + 1 ≠ 2 by decide)⟩, ⟨⟨show (1 : Nat) ≠ 2 by decide, Or.inr rfl⟩, trivial⟩⟩ rfl ?_
            refine j_goto (q := 3) hx (dc kX1_countNamed_0 24 rfl) (by decide) ?_
            exact j_back [1, 2, 0] (x2 + (1 : Int32)) rfl rfl
          · refine j_exit ?_
            refine j_iload_n (q := 34) hx (dc kX1_countNamed_0 19 rfl) rfl 2 rfl rfl ?_
            refine j_bipush (q := 36) (v := (8 : Int32)) hx (dc kX1_countNamed_0 20 rfl) (by decide) rfl ?_
            refine j_isub (q := 37) hx (dc kX1_countNamed_0 21 rfl) rfl ?_
            exact r_iR hx hR (dc kX1_countNamed_0 22 rfl)
    exact j_loop (S := Int32) (lvf := fun s => [(0, vR x.2.2.2 x0), (1, .int x1), (2, .int s)]) (hpf := fun s => h) (f := (fun s : Int32 => mX1_countNamed_l3f x0 x1 h s)) (fun s => hB s) x2
  unfold mX1_countNamed
  refine J.ckd fun hck => ?_
  refine j_bipush (q := 2) (v := (8 : Int32)) hx (dc kX1_countNamed_0 0 rfl) (by decide) rfl ?_
  refine j_istore_n (q := 3) (i := 2) (l2 := [(0, vR x.2.2.2 x0), (1, .int x1)]) hx (dc kX1_countNamed_0 1 rfl) rfl (hn 2 (by decide)) [0, 1] rfl ⟨⟨show (0 : Nat) ≠ 2 by decide, Or.inl (show (0 : Nat) + 1 ≠ 2 by decide)⟩, ⟨⟨show (1 : Nat) ≠ 2 by decide, Or.inr rfl⟩, trivial⟩⟩ rfl ?_
  exact j_sub [1, 2, 0] rfl (hb3 x0 x1 (8 : Int32))

set_option maxHeartbeats 4000000 in
set_option maxRecDepth 100000 in
theorem sX1_pleasOf (l : Launch) (w : Wd) (x0 : Nat) (x1 : Int32) (h : Hp) (u : Int32) (hK : mX1_pleasOf x0 x1 h = some u) : M1 l w mi_X1_pleasOf 2 [vR w x0, .int x1] h h (some (.int u)) := by
  refine M1.of (own := RX1) (T := fun _ r => r = u) hK (by decide +kernel) rfl (by first | (simp only [lg_lenR, lg_lenI, lg_lenL, lg_len0]; decide) | decide) (fun x hx hnl hhf hl hw hret hnm hQ h0e => ⟨?_, rfl⟩)
  subst hw
  subst hl
  have hR : Rt x h h (some (.int u)) ((some .int)) := ⟨h0e, hhf, hret, hQ⟩
  have hn : ∀ i, i < 4 → i < x.2.2.1.1.1 := fun i hi => by rw [hnl]; exact hi
  have e0 : lv_args 0 [vR x.2.2.2 x0, .int x1] = [(0, vR x.2.2.2 x0), (1, .int x1)] := by simp only [lv_argsR, lv_argsI, lv_argsL, lv_args0]
  rw [e0]
  have hb4 : ∀ (x0 : Nat) (x1 : Int32) (x2 : Int32) (x3 : Int32), J x 4 [(0, vR x.2.2.2 x0), (1, .int x1), (2, .int x2), (3, .int x3)] [] h (mX1_pleasOf_l4 x0 x1 x2 x3 h) (fun r => r = u) := by
    intro x0 x1 x2 x3
    have hB : ∀ (x2 : Int32) (x3 : Int32), J x 4 [(0, vR x.2.2.2 x0), (1, .int x1), (2, .int x2), (3, .int x3)] [] h (mX1_pleasOf_l4f x0 x1 h x2 x3) (TLo (S := (Int32 × Int32)) x 4 (fun s => [(0, vR x.2.2.2 x0), (1, .int x1), (2, .int s.1), (3, .int s.2)]) [] (fun s => h) (fun r => r = u)) := by
      intro x2 x3
      have hb30 : ∀ (x0 : Nat) (x1 : Int32) (x3 : Int32) (t0 : Int32) (t1 : Int32), J x 30 [(0, vR x.2.2.2 x0), (1, .int x1), (3, .int x3)] [.int t1, .int t0] h (mX1_pleasOf_b30 x0 x1 x3 t0 t1 h) (TLo (S := (Int32 × Int32)) x 4 (fun s => [(0, vR x.2.2.2 x0), (1, .int x1), (2, .int s.1), (3, .int s.2)]) [] (fun s => h) (fun r => r = u)) := by
        intro x0 x1 x3 t0 t1
        unfold mX1_pleasOf_b30
        refine j_iadd (q := 31) hx (dc kX1_pleasOf_0 18 rfl) rfl ?_
        refine j_istore_n (q := 32) (i := 2) (l2 := [(0, vR x.2.2.2 x0), (1, .int x1), (3, .int x3)]) hx (dc kX1_pleasOf_0 19 rfl) rfl (hn 2 (by decide)) [0, 1, 2] rfl ⟨⟨show (0 : Nat) ≠ 2 by decide, Or.inl (show (0 : Nat) + 1 ≠ 2 by decide)⟩, ⟨⟨show (1 : Nat) ≠ 2 by decide, Or.inr rfl⟩, ⟨⟨show (3 : Nat) ≠ 2 by decide, Or.inl (show (3 : Nat) + 1 ≠ 2 by decide)⟩, trivial⟩⟩⟩ rfl ?_
        refine j_iinc (q := 35) (l2 := [(2, .int (t0 + t1)), (0, vR x.2.2.2 x0), (1, .int x1)]) hx (dc kX1_pleasOf_0 20 rfl) 3 rfl (v := (1 : Int32)) (by decide) (hn 3 (by decide)) [0, 1, 2] rfl ⟨⟨show (2 : Nat) ≠ 3 by decide, Or.inr rfl⟩, ⟨⟨show (0 : Nat) ≠ 3 by decide, Or.inl (show (0 : Nat) + 1 ≠ 3 by decide)⟩, ⟨⟨show (1 : Nat) ≠ 3 by decide, Or.inl (show (1 : Nat) + 1 ≠ 3 by decide)⟩, trivial⟩⟩⟩ rfl ?_
        refine j_goto (q := 4) hx (dc kX1_pleasOf_0 21 rfl) (by decide) ?_
        exact j_back [2, 3, 1, 0] ((t0 + t1), (x3 + (1 : Int32))) rfl rfl
      unfold mX1_pleasOf_l4f
      refine j_iload_n (q := 5) hx (dc kX1_pleasOf_0 4 rfl) rfl 3 rfl rfl ?_
      refine j_aload_n (q := 6) hx (dc kX1_pleasOf_0 5 rfl) rfl 0 rfl rfl ?_
      refine w_gI (q := 9) hx (dc kX1_pleasOf_0 6 rfl) ff_X1_4 lk_X1_69 rfl (fun v1 => ?_)
      refine j_icmp_geS (q := 12) (tgt := 38) hx (dc kX1_pleasOf_0 7 rfl) (by decide) rfl ?_ ?_
      · refine j_exit ?_
        refine j_iload_n (q := 39) hx (dc kX1_pleasOf_0 22 rfl) rfl 2 rfl rfl ?_
        exact r_iR hx hR (dc kX1_pleasOf_0 23 rfl)
      · refine j_iload_n (q := 13) hx (dc kX1_pleasOf_0 8 rfl) rfl 2 rfl rfl ?_
        refine j_aload_n (q := 14) hx (dc kX1_pleasOf_0 9 rfl) rfl 0 rfl rfl ?_
        refine w_gR (q := 17) hx (dc kX1_pleasOf_0 10 rfl) ff_X1_9 lk_X1_21 rfl (fun v2 => ?_)
        refine j_iload_n (q := 18) hx (dc kX1_pleasOf_0 11 rfl) rfl 3 rfl rfl ?_
        refine w_cSIR (q := 21) (As := [vR x.2.2.2 v2, .int x3]) (st := [.int x2]) hx (dc kX1_pleasOf_0 12 rfl) (cI _ my_X11_at lm_X1_89 (by decide)) st_X11_at rfl (fun u hu => sX11_at _ _ _ _ _ _ hu) (sum_le (sum_I sum_nil) (by decide)) rfl (fun v3 => ?_)
        refine j_iload_n (q := 22) hx (dc kX1_pleasOf_0 13 rfl) rfl 1 rfl rfl ?_
        refine j_icmp_neS (q := 25) (tgt := 29) hx (dc kX1_pleasOf_0 14 rfl) (by decide) rfl ?_ ?_
        · refine j_iconst (q := 30) (v := (0 : Int32)) hx (dc kX1_pleasOf_0 17 rfl) (by decide) rfl ?_
          exact j_sub [0, 1, 3] rfl (hb30 x0 x1 x3 x2 (0 : Int32))
        · refine j_iconst (q := 26) (v := (1 : Int32)) hx (dc kX1_pleasOf_0 15 rfl) (by decide) rfl ?_
          refine j_goto (q := 30) hx (dc kX1_pleasOf_0 16 rfl) (by decide) ?_
          exact j_sub [0, 1, 3] rfl (hb30 x0 x1 x3 x2 (1 : Int32))
    exact j_loop (S := (Int32 × Int32)) (lvf := fun s => [(0, vR x.2.2.2 x0), (1, .int x1), (2, .int s.1), (3, .int s.2)]) (hpf := fun s => h) (f := (fun s : (Int32 × Int32) => mX1_pleasOf_l4f x0 x1 h s.1 s.2)) (fun s => hB s.1 s.2) (x2, x3)
  unfold mX1_pleasOf
  refine J.ckd fun hck => ?_
  refine j_iconst (q := 1) (v := (0 : Int32)) hx (dc kX1_pleasOf_0 0 rfl) (by decide) rfl ?_
  refine j_istore_n (q := 2) (i := 2) (l2 := [(0, vR x.2.2.2 x0), (1, .int x1)]) hx (dc kX1_pleasOf_0 1 rfl) rfl (hn 2 (by decide)) [0, 1] rfl ⟨⟨show (0 : Nat) ≠ 2 by decide, Or.inl (show (0 : Nat) + 1 ≠ 2 by decide)⟩, ⟨⟨show (1 : Nat) ≠ 2 by decide, Or.inr rfl⟩, trivial⟩⟩ rfl ?_
  refine j_iconst (q := 3) (v := (0 : Int32)) hx (dc kX1_pleasOf_0 2 rfl) (by decide) rfl ?_
  refine j_istore_n (q := 4) (i := 3) (l2 := [(2, .int (0 : Int32)), (0, vR x.2.2.2 x0), (1, .int x1)]) hx (dc kX1_pleasOf_0 3 rfl) rfl (hn 3 (by decide)) [0, 1, 2] rfl ⟨⟨show (2 : Nat) ≠ 3 by decide, Or.inr rfl⟩, ⟨⟨show (0 : Nat) ≠ 3 by decide, Or.inl (show (0 : Nat) + 1 ≠ 3 by decide)⟩, ⟨⟨show (1 : Nat) ≠ 3 by decide, Or.inl (show (1 : Nat) + 1 ≠ 3 by decide)⟩, trivial⟩⟩⟩ rfl ?_
  exact j_sub [2, 3, 1, 0] rfl (hb4 x0 x1 (0 : Int32) (0 : Int32))

set_option maxHeartbeats 4000000 in
set_option maxRecDepth 100000 in
theorem sX10_within (l : Launch) (w : Wd) (x0 : Nat) (x1 : Nat) (h : Hp) (u : Int32) (hK : mX10_within x0 x1 h = some u) : M1 l w mi_X10_within 1 [vR w x0, vR w x1] h h (some (.int u)) := by
  refine M1.of (own := RX10) (T := fun _ r => r = u) hK (by decide +kernel) rfl (by first | (simp only [lg_lenR, lg_lenI, lg_lenL, lg_len0]; decide) | decide) (fun x hx hnl hhf hl hw hret hnm hQ h0e => ⟨?_, rfl⟩)
  subst hw
  subst hl
  have hR : Rt x h h (some (.int u)) ((some .boolean)) := ⟨h0e, hhf, hret, hQ⟩
  have hn : ∀ i, i < 3 → i < x.2.2.1.1.1 := fun i hi => by rw [hnl]; exact hi
  have e0 : lv_args 0 [vR x.2.2.2 x0, vR x.2.2.2 x1] = [(0, vR x.2.2.2 x0), (1, vR x.2.2.2 x1)] := by simp only [lv_argsR, lv_argsI, lv_argsL, lv_args0]
  rw [e0]
  have hb2 : ∀ (x0 : Nat) (x1 : Nat) (x2 : Int32), J x 2 [(0, vR x.2.2.2 x0), (1, vR x.2.2.2 x1), (2, .int x2)] [] h (mX10_within_l2 x0 x1 x2 h) (fun r => r = u) := by
    intro x0 x1 x2
    have hB : ∀ (x2 : Int32), J x 2 [(0, vR x.2.2.2 x0), (1, vR x.2.2.2 x1), (2, .int x2)] [] h (mX10_within_l2f x0 x1 h x2) (TLo (S := Int32) x 2 (fun s => [(0, vR x.2.2.2 x0), (1, vR x.2.2.2 x1), (2, .int s)]) [] (fun s => h) (fun r => r = u)) := by
      intro x2
      unfold mX10_within_l2f
      refine j_iload_n (q := 3) hx (dc kX10_within_0 2 rfl) rfl 2 rfl rfl ?_
      refine j_aload_n (q := 4) hx (dc kX10_within_0 3 rfl) rfl 0 rfl rfl ?_
      refine w_gR (q := 7) hx (dc kX10_within_0 4 rfl) ff_X10_0 lk_X10_9 rfl (fun v1 => ?_)
      refine j_alen (q := 8) hx (dc kX10_within_0 5 rfl) rfl (fun v2 => ?_)
      refine j_icmp_geS (q := 11) (tgt := 50) hx (dc kX10_within_0 6 rfl) (by decide) rfl ?_ ?_
      · refine j_exit ?_
        refine j_iconst (q := 51) (v := (1 : Int32)) hx (dc kX10_within_0 30 rfl) (by decide) rfl ?_
        exact r_cR hx (Or.inr rfl) hR (dc kX10_within_0 31 rfl)
      · refine j_iload_n (q := 12) hx (dc kX10_within_0 7 rfl) rfl 2 rfl rfl ?_
        refine j_aload_n (q := 13) hx (dc kX10_within_0 8 rfl) rfl 1 rfl rfl ?_
        refine w_gR (q := 16) hx (dc kX10_within_0 9 rfl) ff_X10_0 lk_X10_9 rfl (fun v3 => ?_)
        refine j_alen (q := 17) hx (dc kX10_within_0 10 rfl) rfl (fun v4 => ?_)
        refine j_icmp_geS (q := 20) (tgt := 50) hx (dc kX10_within_0 11 rfl) (by decide) rfl ?_ ?_
        · refine j_exit ?_
          refine j_iconst (q := 51) (v := (1 : Int32)) hx (dc kX10_within_0 30 rfl) (by decide) rfl ?_
          exact r_cR hx (Or.inr rfl) hR (dc kX10_within_0 31 rfl)
        · refine j_aload_n (q := 21) hx (dc kX10_within_0 12 rfl) rfl 0 rfl rfl ?_
          refine w_gR (q := 24) hx (dc kX10_within_0 13 rfl) ff_X10_0 lk_X10_9 rfl (fun v5 => ?_)
          refine j_iload_n (q := 25) hx (dc kX10_within_0 14 rfl) rfl 2 rfl rfl ?_
          refine j_ldL (q := 26) hx (dc kX10_within_0 15 rfl) rfl (fun v6 => ?_)
          refine j_aload_n (q := 27) hx (dc kX10_within_0 16 rfl) rfl 1 rfl rfl ?_
          refine w_gR (q := 30) hx (dc kX10_within_0 17 rfl) ff_X10_0 lk_X10_9 rfl (fun v7 => ?_)
          refine j_iload_n (q := 31) hx (dc kX10_within_0 18 rfl) rfl 2 rfl rfl ?_
          refine j_ldL (q := 32) hx (dc kX10_within_0 19 rfl) rfl (fun v8 => ?_)
          refine j_ldc2 (q := 35) hx kl_X10_18 (dc kX10_within_0 20 rfl) rfl ?_
          refine j_lxor (q := 36) hx (dc kX10_within_0 21 rfl) rfl ?_
          refine j_land (q := 37) hx (dc kX10_within_0 22 rfl) rfl ?_
          refine j_lconst (q := 38) (v := (0 : Int64)) hx (dc kX10_within_0 23 rfl) (by decide) rfl ?_
          refine j_lcmp (q := 39) hx (dc kX10_within_0 24 rfl) rfl ?_
          refine j_if_eq (q := 42) (tgt := 44) hx (dc kX10_within_0 25 rfl) (by decide) Iff.rfl rfl ?_ ?_
          · refine j_iinc (q := 47) (l2 := [(0, vR x.2.2.2 x0), (1, vR x.2.2.2 x1)]) hx (dc kX10_within_0 28 rfl) 2 rfl (v := (1 : Int32)) (by decide) (hn 2 (by decide)) [0, 1] rfl ⟨⟨show (0 : Nat) ≠ 2 by decide, Or.inl (show (0 : Nat) + 1 ≠ 2 by decide)⟩, ⟨⟨show (1 : Nat) ≠ 2 by decide, Or.inr (vR_cat _ _)⟩, trivial⟩⟩ rfl ?_
            refine j_goto (q := 2) hx (dc kX10_within_0 29 rfl) (by decide) ?_
            exact j_back [1, 2, 0] (x2 + (1 : Int32)) rfl rfl
          · refine j_exit ?_
            refine j_iconst (q := 43) (v := (0 : Int32)) hx (dc kX10_within_0 26 rfl) (by decide) rfl ?_
            exact r_cR hx (Or.inl rfl) hR (dc kX10_within_0 27 rfl)
    exact j_loop (S := Int32) (lvf := fun s => [(0, vR x.2.2.2 x0), (1, vR x.2.2.2 x1), (2, .int s)]) (hpf := fun s => h) (f := (fun s : Int32 => mX10_within_l2f x0 x1 h s)) (fun s => hB s) x2
  unfold mX10_within
  refine J.ckd fun hck => ?_
  refine j_iconst (q := 1) (v := (0 : Int32)) hx (dc kX10_within_0 0 rfl) (by decide) rfl ?_
  refine j_istore_n (q := 2) (i := 2) (l2 := [(0, vR x.2.2.2 x0), (1, vR x.2.2.2 x1)]) hx (dc kX10_within_0 1 rfl) rfl (hn 2 (by decide)) [0, 1] rfl ⟨⟨show (0 : Nat) ≠ 2 by decide, Or.inl (show (0 : Nat) + 1 ≠ 2 by decide)⟩, ⟨⟨show (1 : Nat) ≠ 2 by decide, Or.inr (vR_cat _ _)⟩, trivial⟩⟩ rfl ?_
  exact j_sub [1, 2, 0] rfl (hb2 x0 x1 (0 : Int32))

set_option maxHeartbeats 4000000 in
set_option maxRecDepth 100000 in
theorem sX1_needsSure (l : Launch) (w : Wd) (x0 : Nat) (x1 : Int32) (x2 : Nat) (h : Hp) (u : Int32) (hK : mX1_needsSure x0 x1 x2 h = some u) : M1 l w mi_X1_needsSure 2 [vR w x0, .int x1, vR w x2] h h (some (.int u)) := by
  refine M1.of (own := RX1) (T := fun _ r => r = u) hK (by decide +kernel) rfl (by first | (simp only [lg_lenR, lg_lenI, lg_lenL, lg_len0]; decide) | decide) (fun x hx hnl hhf hl hw hret hnm hQ h0e => ⟨?_, rfl⟩)
  subst hw
  subst hl
  have hR : Rt x h h (some (.int u)) ((some .boolean)) := ⟨h0e, hhf, hret, hQ⟩
  have hn : ∀ i, i < 4 → i < x.2.2.1.1.1 := fun i hi => by rw [hnl]; exact hi
  have e0 : lv_args 0 [vR x.2.2.2 x0, .int x1, vR x.2.2.2 x2] = [(0, vR x.2.2.2 x0), (1, .int x1), (2, vR x.2.2.2 x2)] := by simp only [lv_argsR, lv_argsI, lv_argsL, lv_args0]
  rw [e0]
  have hb2 : ∀ (x0 : Nat) (x1 : Int32) (x2 : Nat) (x3 : Int32), J x 2 [(0, vR x.2.2.2 x0), (1, .int x1), (2, vR x.2.2.2 x2), (3, .int x3)] [] h (mX1_needsSure_l2 x0 x1 x2 x3 h) (fun r => r = u) := by
    intro x0 x1 x2 x3
    have hB : ∀ (x3 : Int32), J x 2 [(0, vR x.2.2.2 x0), (1, .int x1), (2, vR x.2.2.2 x2), (3, .int x3)] [] h (mX1_needsSure_l2f x0 x1 x2 h x3) (TLo (S := Int32) x 2 (fun s => [(0, vR x.2.2.2 x0), (1, .int x1), (2, vR x.2.2.2 x2), (3, .int s)]) [] (fun s => h) (fun r => r = u)) := by
      intro x3
      unfold mX1_needsSure_l2f
      refine j_iload_n (q := 3) hx (dc kX1_needsSure_0 2 rfl) rfl 3 rfl rfl ?_
      refine j_aload_n (q := 4) hx (dc kX1_needsSure_0 3 rfl) rfl 0 rfl rfl ?_
      refine w_gR (q := 7) hx (dc kX1_needsSure_0 4 rfl) ff_X1_8 lk_X1_18 rfl (fun v1 => ?_)
      refine j_iload_n (q := 8) hx (dc kX1_needsSure_0 5 rfl) rfl 1 rfl rfl ?_
      refine w_cSIR (q := 11) (As := [vR x.2.2.2 v1, .int x1]) (st := [.int x3]) hx (dc kX1_needsSure_0 6 rfl) (cI _ my_X11_at lm_X1_89 (by decide)) st_X11_at rfl (fun u hu => sX11_at _ _ _ _ _ _ hu) (sum_le (sum_I sum_nil) (by decide)) rfl (fun v2 => ?_)
      refine j_icmp_geS (q := 14) (tgt := 38) hx (dc kX1_needsSure_0 7 rfl) (by decide) rfl ?_ ?_
      · refine j_exit ?_
        refine j_iconst (q := 39) (v := (1 : Int32)) hx (dc kX1_needsSure_0 20 rfl) (by decide) rfl ?_
        exact r_cR hx (Or.inr rfl) hR (dc kX1_needsSure_0 21 rfl)
      · refine j_aload_n (q := 15) hx (dc kX1_needsSure_0 8 rfl) rfl 2 rfl rfl ?_
        refine j_aload_n (q := 16) hx (dc kX1_needsSure_0 9 rfl) rfl 0 rfl rfl ?_
        refine j_iload_n (q := 17) hx (dc kX1_needsSure_0 10 rfl) rfl 1 rfl rfl ?_
        refine j_iload_n (q := 18) hx (dc kX1_needsSure_0 11 rfl) rfl 3 rfl rfl ?_
        refine w_cSIR (q := 21) (As := [.int x1, .int x3]) (st := [vR x.2.2.2 x0, vR x.2.2.2 x2]) hx (dc kX1_needsSure_0 12 rfl) (cI _ my_X11_needSlot lm_X1_118 (by decide)) st_X11_needSlot rfl (fun u hu => sX11_needSlot _ _ _ _ _ _ hu) (sum_le (sum_R (sum_R sum_nil)) (by decide)) rfl (fun v4 => ?_)
        refine w_cVRR (q := 24) (As := [.int v4]) (st := [vR x.2.2.2 x2]) hx (dc kX1_needsSure_0 13 rfl) cf1 (by decide) rfl (cI _ my_X1_table lm_X1_93 (by decide)) vs_X1_table rfl (fun u hu => sX1_table _ _ _ _ _ _ hu) (fun e => ite_ne (by unfold mX1_table at e; exact e)) (sum_le (sum_R sum_nil) (by decide)) rfl (fun v6 => ?_)
        refine w_cVIR (q := 27) (As := [vR x.2.2.2 v6]) (st := []) hx (dc kX1_needsSure_0 14 rfl) cf10 (by decide) rfl (cI _ my_X10_within lm_X1_138 (by decide)) vs_X10_within rfl (fun u hu => sX10_within _ _ _ _ _ _ hu) (fun e => ite_ne (by unfold mX10_within at e; exact e)) (Nat.zero_le _) rfl (fun v8 => ?_)
        refine j_if_neS (q := 30) (tgt := 32) hx (dc kX1_needsSure_0 15 rfl) (by decide) rfl ?_ ?_
        · refine j_iinc (q := 35) (l2 := [(0, vR x.2.2.2 x0), (1, .int x1), (2, vR x.2.2.2 x2)]) hx (dc kX1_needsSure_0 18 rfl) 3 rfl (v := (1 : Int32)) (by decide) (hn 3 (by decide)) [0, 1, 2] rfl ⟨⟨show (0 : Nat) ≠ 3 by decide, Or.inl (show (0 : Nat) + 1 ≠ 3 by decide)⟩, ⟨⟨show (1 : Nat) ≠ 3 by decide, Or.inl (show (1 : Nat) + 1 ≠ 3 by decide)⟩, ⟨⟨show (2 : Nat) ≠ 3 by decide, Or.inr (vR_cat _ _)⟩, trivial⟩⟩⟩ rfl ?_
          refine j_goto (q := 2) hx (dc kX1_needsSure_0 19 rfl) (by decide) ?_
          exact j_back [1, 2, 3, 0] (x3 + (1 : Int32)) rfl rfl
        · refine j_exit ?_
          refine j_iconst (q := 31) (v := (0 : Int32)) hx (dc kX1_needsSure_0 16 rfl) (by decide) rfl ?_
          exact r_cR hx (Or.inl rfl) hR (dc kX1_needsSure_0 17 rfl)
    exact j_loop (S := Int32) (lvf := fun s => [(0, vR x.2.2.2 x0), (1, .int x1), (2, vR x.2.2.2 x2), (3, .int s)]) (hpf := fun s => h) (f := (fun s : Int32 => mX1_needsSure_l2f x0 x1 x2 h s)) (fun s => hB s) x3
  unfold mX1_needsSure
  refine J.ckd fun hck => ?_
  refine j_iconst (q := 1) (v := (0 : Int32)) hx (dc kX1_needsSure_0 0 rfl) (by decide) rfl ?_
  refine j_istore_n (q := 2) (i := 3) (l2 := [(0, vR x.2.2.2 x0), (1, .int x1), (2, vR x.2.2.2 x2)]) hx (dc kX1_needsSure_0 1 rfl) rfl (hn 3 (by decide)) [0, 1, 2] rfl ⟨⟨show (0 : Nat) ≠ 3 by decide, Or.inl (show (0 : Nat) + 1 ≠ 3 by decide)⟩, ⟨⟨show (1 : Nat) ≠ 3 by decide, Or.inl (show (1 : Nat) + 1 ≠ 3 by decide)⟩, ⟨⟨show (2 : Nat) ≠ 3 by decide, Or.inr (vR_cat _ _)⟩, trivial⟩⟩⟩ rfl ?_
  exact j_sub [1, 2, 3, 0] rfl (hb2 x0 x1 x2 (0 : Int32))

set_option maxHeartbeats 4000000 in
set_option maxRecDepth 100000 in
theorem sX10_meets (l : Launch) (w : Wd) (x0 : Nat) (x1 : Nat) (h : Hp) (u : Int32) (hK : mX10_meets x0 x1 h = some u) : M1 l w mi_X10_meets 1 [vR w x0, vR w x1] h h (some (.int u)) := by
  refine M1.of (own := RX10) (T := fun _ r => r = u) hK (by decide +kernel) rfl (by first | (simp only [lg_lenR, lg_lenI, lg_lenL, lg_len0]; decide) | decide) (fun x hx hnl hhf hl hw hret hnm hQ h0e => ⟨?_, rfl⟩)
  subst hw
  subst hl
  have hR : Rt x h h (some (.int u)) ((some .boolean)) := ⟨h0e, hhf, hret, hQ⟩
  have hn : ∀ i, i < 3 → i < x.2.2.1.1.1 := fun i hi => by rw [hnl]; exact hi
  have e0 : lv_args 0 [vR x.2.2.2 x0, vR x.2.2.2 x1] = [(0, vR x.2.2.2 x0), (1, vR x.2.2.2 x1)] := by simp only [lv_argsR, lv_argsI, lv_argsL, lv_args0]
  rw [e0]
  have hb2 : ∀ (x0 : Nat) (x1 : Nat) (x2 : Int32), J x 2 [(0, vR x.2.2.2 x0), (1, vR x.2.2.2 x1), (2, .int x2)] [] h (mX10_meets_l2 x0 x1 x2 h) (fun r => r = u) := by
    intro x0 x1 x2
    have hB : ∀ (x2 : Int32), J x 2 [(0, vR x.2.2.2 x0), (1, vR x.2.2.2 x1), (2, .int x2)] [] h (mX10_meets_l2f x0 x1 h x2) (TLo (S := Int32) x 2 (fun s => [(0, vR x.2.2.2 x0), (1, vR x.2.2.2 x1), (2, .int s)]) [] (fun s => h) (fun r => r = u)) := by
      intro x2
      unfold mX10_meets_l2f
      refine j_iload_n (q := 3) hx (dc kX10_meets_0 2 rfl) rfl 2 rfl rfl ?_
      refine j_aload_n (q := 4) hx (dc kX10_meets_0 3 rfl) rfl 0 rfl rfl ?_
      refine w_gR (q := 7) hx (dc kX10_meets_0 4 rfl) ff_X10_0 lk_X10_9 rfl (fun v1 => ?_)
      refine j_alen (q := 8) hx (dc kX10_meets_0 5 rfl) rfl (fun v2 => ?_)
      refine j_icmp_geS (q := 11) (tgt := 46) hx (dc kX10_meets_0 6 rfl) (by decide) rfl ?_ ?_
      · refine j_exit ?_
        refine j_iconst (q := 47) (v := (0 : Int32)) hx (dc kX10_meets_0 28 rfl) (by decide) rfl ?_
        exact r_cR hx (Or.inl rfl) hR (dc kX10_meets_0 29 rfl)
      · refine j_iload_n (q := 12) hx (dc kX10_meets_0 7 rfl) rfl 2 rfl rfl ?_
        refine j_aload_n (q := 13) hx (dc kX10_meets_0 8 rfl) rfl 1 rfl rfl ?_
        refine w_gR (q := 16) hx (dc kX10_meets_0 9 rfl) ff_X10_0 lk_X10_9 rfl (fun v3 => ?_)
        refine j_alen (q := 17) hx (dc kX10_meets_0 10 rfl) rfl (fun v4 => ?_)
        refine j_icmp_geS (q := 20) (tgt := 46) hx (dc kX10_meets_0 11 rfl) (by decide) rfl ?_ ?_
        · refine j_exit ?_
          refine j_iconst (q := 47) (v := (0 : Int32)) hx (dc kX10_meets_0 28 rfl) (by decide) rfl ?_
          exact r_cR hx (Or.inl rfl) hR (dc kX10_meets_0 29 rfl)
        · refine j_aload_n (q := 21) hx (dc kX10_meets_0 12 rfl) rfl 0 rfl rfl ?_
          refine w_gR (q := 24) hx (dc kX10_meets_0 13 rfl) ff_X10_0 lk_X10_9 rfl (fun v5 => ?_)
          refine j_iload_n (q := 25) hx (dc kX10_meets_0 14 rfl) rfl 2 rfl rfl ?_
          refine j_ldL (q := 26) hx (dc kX10_meets_0 15 rfl) rfl (fun v6 => ?_)
          refine j_aload_n (q := 27) hx (dc kX10_meets_0 16 rfl) rfl 1 rfl rfl ?_
          refine w_gR (q := 30) hx (dc kX10_meets_0 17 rfl) ff_X10_0 lk_X10_9 rfl (fun v7 => ?_)
          refine j_iload_n (q := 31) hx (dc kX10_meets_0 18 rfl) rfl 2 rfl rfl ?_
          refine j_ldL (q := 32) hx (dc kX10_meets_0 19 rfl) rfl (fun v8 => ?_)
          refine j_land (q := 33) hx (dc kX10_meets_0 20 rfl) rfl ?_
          refine j_lconst (q := 34) (v := (0 : Int64)) hx (dc kX10_meets_0 21 rfl) (by decide) rfl ?_
          refine j_lcmp (q := 35) hx (dc kX10_meets_0 22 rfl) rfl ?_
          refine j_if_eq (q := 38) (tgt := 40) hx (dc kX10_meets_0 23 rfl) (by decide) Iff.rfl rfl ?_ ?_
          · refine j_iinc (q := 43) (l2 := [(0, vR x.2.2.2 x0), (1, vR x.2.2.2 x1)]) hx (dc kX10_meets_0 26 rfl) 2 rfl (v := (1 : Int32)) (by decide) (hn 2 (by decide)) [0, 1] rfl ⟨⟨show (0 : Nat) ≠ 2 by decide, Or.inl (show (0 : Nat) + 1 ≠ 2 by decide)⟩, ⟨⟨show (1 : Nat) ≠ 2 by decide, Or.inr (vR_cat _ _)⟩, trivial⟩⟩ rfl ?_
            refine j_goto (q := 2) hx (dc kX10_meets_0 27 rfl) (by decide) ?_
            exact j_back [1, 2, 0] (x2 + (1 : Int32)) rfl rfl
          · refine j_exit ?_
            refine j_iconst (q := 39) (v := (1 : Int32)) hx (dc kX10_meets_0 24 rfl) (by decide) rfl ?_
            exact r_cR hx (Or.inr rfl) hR (dc kX10_meets_0 25 rfl)
    exact j_loop (S := Int32) (lvf := fun s => [(0, vR x.2.2.2 x0), (1, vR x.2.2.2 x1), (2, .int s)]) (hpf := fun s => h) (f := (fun s : Int32 => mX10_meets_l2f x0 x1 h s)) (fun s => hB s) x2
  unfold mX10_meets
  refine J.ckd fun hck => ?_
  refine j_iconst (q := 1) (v := (0 : Int32)) hx (dc kX10_meets_0 0 rfl) (by decide) rfl ?_
  refine j_istore_n (q := 2) (i := 2) (l2 := [(0, vR x.2.2.2 x0), (1, vR x.2.2.2 x1)]) hx (dc kX10_meets_0 1 rfl) rfl (hn 2 (by decide)) [0, 1] rfl ⟨⟨show (0 : Nat) ≠ 2 by decide, Or.inl (show (0 : Nat) + 1 ≠ 2 by decide)⟩, ⟨⟨show (1 : Nat) ≠ 2 by decide, Or.inr (vR_cat _ _)⟩, trivial⟩⟩ rfl ?_
  exact j_sub [1, 2, 0] rfl (hb2 x0 x1 (0 : Int32))

set_option maxHeartbeats 4000000 in
set_option maxRecDepth 100000 in
theorem sX1_needsMet (l : Launch) (w : Wd) (x0 : Nat) (x1 : Int32) (x2 : Nat) (h : Hp) (u : Int32) (hK : mX1_needsMet x0 x1 x2 h = some u) : M1 l w mi_X1_needsMet 2 [vR w x0, .int x1, vR w x2] h h (some (.int u)) := by
  refine M1.of (own := RX1) (T := fun _ r => r = u) hK (by decide +kernel) rfl (by first | (simp only [lg_lenR, lg_lenI, lg_lenL, lg_len0]; decide) | decide) (fun x hx hnl hhf hl hw hret hnm hQ h0e => ⟨?_, rfl⟩)
  subst hw
  subst hl
  have hR : Rt x h h (some (.int u)) ((some .boolean)) := ⟨h0e, hhf, hret, hQ⟩
  have hn : ∀ i, i < 4 → i < x.2.2.1.1.1 := fun i hi => by rw [hnl]; exact hi
  have e0 : lv_args 0 [vR x.2.2.2 x0, .int x1, vR x.2.2.2 x2] = [(0, vR x.2.2.2 x0), (1, .int x1), (2, vR x.2.2.2 x2)] := by simp only [lv_argsR, lv_argsI, lv_argsL, lv_args0]
  rw [e0]
  have hb2 : ∀ (x0 : Nat) (x1 : Int32) (x2 : Nat) (x3 : Int32), J x 2 [(0, vR x.2.2.2 x0), (1, .int x1), (2, vR x.2.2.2 x2), (3, .int x3)] [] h (mX1_needsMet_l2 x0 x1 x2 x3 h) (fun r => r = u) := by
    intro x0 x1 x2 x3
    have hB : ∀ (x3 : Int32), J x 2 [(0, vR x.2.2.2 x0), (1, .int x1), (2, vR x.2.2.2 x2), (3, .int x3)] [] h (mX1_needsMet_l2f x0 x1 x2 h x3) (TLo (S := Int32) x 2 (fun s => [(0, vR x.2.2.2 x0), (1, .int x1), (2, vR x.2.2.2 x2), (3, .int s)]) [] (fun s => h) (fun r => r = u)) := by
      intro x3
      unfold mX1_needsMet_l2f
      refine j_iload_n (q := 3) hx (dc kX1_needsMet_0 2 rfl) rfl 3 rfl rfl ?_
      refine j_aload_n (q := 4) hx (dc kX1_needsMet_0 3 rfl) rfl 0 rfl rfl ?_
      refine w_gR (q := 7) hx (dc kX1_needsMet_0 4 rfl) ff_X1_8 lk_X1_18 rfl (fun v1 => ?_)
      refine j_iload_n (q := 8) hx (dc kX1_needsMet_0 5 rfl) rfl 1 rfl rfl ?_
      refine w_cSIR (q := 11) (As := [vR x.2.2.2 v1, .int x1]) (st := [.int x3]) hx (dc kX1_needsMet_0 6 rfl) (cI _ my_X11_at lm_X1_89 (by decide)) st_X11_at rfl (fun u hu => sX11_at _ _ _ _ _ _ hu) (sum_le (sum_I sum_nil) (by decide)) rfl (fun v2 => ?_)
      refine j_icmp_geS (q := 14) (tgt := 38) hx (dc kX1_needsMet_0 7 rfl) (by decide) rfl ?_ ?_
      · refine j_exit ?_
        refine j_iconst (q := 39) (v := (1 : Int32)) hx (dc kX1_needsMet_0 20 rfl) (by decide) rfl ?_
        exact r_cR hx (Or.inr rfl) hR (dc kX1_needsMet_0 21 rfl)
      · refine j_aload_n (q := 15) hx (dc kX1_needsMet_0 8 rfl) rfl 2 rfl rfl ?_
        refine j_aload_n (q := 16) hx (dc kX1_needsMet_0 9 rfl) rfl 0 rfl rfl ?_
        refine j_iload_n (q := 17) hx (dc kX1_needsMet_0 10 rfl) rfl 1 rfl rfl ?_
        refine j_iload_n (q := 18) hx (dc kX1_needsMet_0 11 rfl) rfl 3 rfl rfl ?_
        refine w_cSIR (q := 21) (As := [.int x1, .int x3]) (st := [vR x.2.2.2 x0, vR x.2.2.2 x2]) hx (dc kX1_needsMet_0 12 rfl) (cI _ my_X11_needSlot lm_X1_118 (by decide)) st_X11_needSlot rfl (fun u hu => sX11_needSlot _ _ _ _ _ _ hu) (sum_le (sum_R (sum_R sum_nil)) (by decide)) rfl (fun v4 => ?_)
        refine w_cVRR (q := 24) (As := [.int v4]) (st := [vR x.2.2.2 x2]) hx (dc kX1_needsMet_0 13 rfl) cf1 (by decide) rfl (cI _ my_X1_table lm_X1_93 (by decide)) vs_X1_table rfl (fun u hu => sX1_table _ _ _ _ _ _ hu) (fun e => ite_ne (by unfold mX1_table at e; exact e)) (sum_le (sum_R sum_nil) (by decide)) rfl (fun v6 => ?_)
        refine w_cVIR (q := 27) (As := [vR x.2.2.2 v6]) (st := []) hx (dc kX1_needsMet_0 14 rfl) cf10 (by decide) rfl (cI _ my_X10_meets lm_X1_142 (by decide)) vs_X10_meets rfl (fun u hu => sX10_meets _ _ _ _ _ _ hu) (fun e => ite_ne (by unfold mX10_meets at e; exact e)) (Nat.zero_le _) rfl (fun v8 => ?_)
        refine j_if_neS (q := 30) (tgt := 32) hx (dc kX1_needsMet_0 15 rfl) (by decide) rfl ?_ ?_
        · refine j_iinc (q := 35) (l2 := [(0, vR x.2.2.2 x0), (1, .int x1), (2, vR x.2.2.2 x2)]) hx (dc kX1_needsMet_0 18 rfl) 3 rfl (v := (1 : Int32)) (by decide) (hn 3 (by decide)) [0, 1, 2] rfl ⟨⟨show (0 : Nat) ≠ 3 by decide, Or.inl (show (0 : Nat) + 1 ≠ 3 by decide)⟩, ⟨⟨show (1 : Nat) ≠ 3 by decide, Or.inl (show (1 : Nat) + 1 ≠ 3 by decide)⟩, ⟨⟨show (2 : Nat) ≠ 3 by decide, Or.inr (vR_cat _ _)⟩, trivial⟩⟩⟩ rfl ?_
          refine j_goto (q := 2) hx (dc kX1_needsMet_0 19 rfl) (by decide) ?_
          exact j_back [1, 2, 3, 0] (x3 + (1 : Int32)) rfl rfl
        · refine j_exit ?_
          refine j_iconst (q := 31) (v := (0 : Int32)) hx (dc kX1_needsMet_0 16 rfl) (by decide) rfl ?_
          exact r_cR hx (Or.inl rfl) hR (dc kX1_needsMet_0 17 rfl)
    exact j_loop (S := Int32) (lvf := fun s => [(0, vR x.2.2.2 x0), (1, .int x1), (2, vR x.2.2.2 x2), (3, .int s)]) (hpf := fun s => h) (f := (fun s : Int32 => mX1_needsMet_l2f x0 x1 x2 h s)) (fun s => hB s) x3
  unfold mX1_needsMet
  refine J.ckd fun hck => ?_
  refine j_iconst (q := 1) (v := (0 : Int32)) hx (dc kX1_needsMet_0 0 rfl) (by decide) rfl ?_
  refine j_istore_n (q := 2) (i := 3) (l2 := [(0, vR x.2.2.2 x0), (1, .int x1), (2, vR x.2.2.2 x2)]) hx (dc kX1_needsMet_0 1 rfl) rfl (hn 3 (by decide)) [0, 1, 2] rfl ⟨⟨show (0 : Nat) ≠ 3 by decide, Or.inl (show (0 : Nat) + 1 ≠ 3 by decide)⟩, ⟨⟨show (1 : Nat) ≠ 3 by decide, Or.inl (show (1 : Nat) + 1 ≠ 3 by decide)⟩, ⟨⟨show (2 : Nat) ≠ 3 by decide, Or.inr (vR_cat _ _)⟩, trivial⟩⟩⟩ rfl ?_
  exact j_sub [1, 2, 3, 0] rfl (hb2 x0 x1 x2 (0 : Int32))

set_option maxHeartbeats 4000000 in
set_option maxRecDepth 100000 in
theorem sX1_barred (l : Launch) (w : Wd) (x0 : Nat) (x1 : Int32) (x2 : Nat) (h : Hp) (u : Int32) (hK : mX1_barred x0 x1 x2 h = some u) : M1 l w mi_X1_barred 2 [vR w x0, .int x1, vR w x2] h h (some (.int u)) := by
  refine M1.of (own := RX1) (T := fun _ r => r = u) hK (by decide +kernel) rfl (by first | (simp only [lg_lenR, lg_lenI, lg_lenL, lg_len0]; decide) | decide) (fun x hx hnl hhf hl hw hret hnm hQ h0e => ⟨?_, rfl⟩)
  subst hw
  subst hl
  have hR : Rt x h h (some (.int u)) ((some .boolean)) := ⟨h0e, hhf, hret, hQ⟩
  have hn : ∀ i, i < 4 → i < x.2.2.1.1.1 := fun i hi => by rw [hnl]; exact hi
  have e0 : lv_args 0 [vR x.2.2.2 x0, .int x1, vR x.2.2.2 x2] = [(0, vR x.2.2.2 x0), (1, .int x1), (2, vR x.2.2.2 x2)] := by simp only [lv_argsR, lv_argsI, lv_argsL, lv_args0]
  rw [e0]
  have hb2 : ∀ (x0 : Nat) (x1 : Int32) (x2 : Nat) (x3 : Int32), J x 2 [(0, vR x.2.2.2 x0), (1, .int x1), (2, vR x.2.2.2 x2), (3, .int x3)] [] h (mX1_barred_l2 x0 x1 x2 x3 h) (fun r => r = u) := by
    intro x0 x1 x2 x3
    have hB : ∀ (x3 : Int32), J x 2 [(0, vR x.2.2.2 x0), (1, .int x1), (2, vR x.2.2.2 x2), (3, .int x3)] [] h (mX1_barred_l2f x0 x1 x2 h x3) (TLo (S := Int32) x 2 (fun s => [(0, vR x.2.2.2 x0), (1, .int x1), (2, vR x.2.2.2 x2), (3, .int s)]) [] (fun s => h) (fun r => r = u)) := by
      intro x3
      have hb39 : ∀ (x0 : Nat) (x1 : Int32) (x2 : Nat) (x3 : Int32), J x 39 [(0, vR x.2.2.2 x0), (1, .int x1), (2, vR x.2.2.2 x2), (3, .int x3)] [] h (mX1_barred_b39 x0 x1 x2 x3 h) (TLo (S := Int32) x 2 (fun s => [(0, vR x.2.2.2 x0), (1, .int x1), (2, vR x.2.2.2 x2), (3, .int s)]) [] (fun s => h) (fun r => r = u)) := by
        intro x0 x1 x2 x3
        unfold mX1_barred_b39
        refine j_iinc (q := 42) (l2 := [(0, vR x.2.2.2 x0), (1, .int x1), (2, vR x.2.2.2 x2)]) hx (dc kX1_barred_0 22 rfl) 3 rfl (v := (1 : Int32)) (by decide) (hn 3 (by decide)) [0, 1, 2] rfl ⟨⟨show (0 : Nat) ≠ 3 by decide, Or.inl (show (0 : Nat) + 1 ≠ 3 by decide)⟩, ⟨⟨show (1 : Nat) ≠ 3 by decide, Or.inl (show (1 : Nat) + 1 ≠ 3 by decide)⟩, ⟨⟨show (2 : Nat) ≠ 3 by decide, Or.inr (vR_cat _ _)⟩, trivial⟩⟩⟩ rfl ?_
        refine j_goto (q := 2) hx (dc kX1_barred_0 23 rfl) (by decide) ?_
        exact j_back [1, 2, 3, 0] (x3 + (1 : Int32)) rfl rfl
      unfold mX1_barred_l2f
      refine j_iload_n (q := 3) hx (dc kX1_barred_0 2 rfl) rfl 3 rfl rfl ?_
      refine j_aload_n (q := 4) hx (dc kX1_barred_0 3 rfl) rfl 0 rfl rfl ?_
      refine w_gI (q := 7) hx (dc kX1_barred_0 4 rfl) ff_X1_4 lk_X1_69 rfl (fun v1 => ?_)
      refine j_icmp_geS (q := 10) (tgt := 45) hx (dc kX1_barred_0 5 rfl) (by decide) rfl ?_ ?_
      · refine j_exit ?_
        refine j_iconst (q := 46) (v := (0 : Int32)) hx (dc kX1_barred_0 24 rfl) (by decide) rfl ?_
        exact r_cR hx (Or.inl rfl) hR (dc kX1_barred_0 25 rfl)
      · refine j_aload_n (q := 11) hx (dc kX1_barred_0 6 rfl) rfl 0 rfl rfl ?_
        refine w_gR (q := 14) hx (dc kX1_barred_0 7 rfl) ff_X1_9 lk_X1_21 rfl (fun v2 => ?_)
        refine j_iload_n (q := 15) hx (dc kX1_barred_0 8 rfl) rfl 3 rfl rfl ?_
        refine w_cSIR (q := 18) (As := [vR x.2.2.2 v2, .int x3]) (st := []) hx (dc kX1_barred_0 9 rfl) (cI _ my_X11_at lm_X1_89 (by decide)) st_X11_at rfl (fun u hu => sX11_at _ _ _ _ _ _ hu) (Nat.zero_le _) rfl (fun v3 => ?_)
        refine j_iload_n (q := 19) hx (dc kX1_barred_0 10 rfl) rfl 1 rfl rfl ?_
        refine j_icmp_neS (q := 22) (tgt := 39) hx (dc kX1_barred_0 11 rfl) (by decide) rfl ?_ ?_
        · exact hb39 x0 x1 x2 x3
        · refine j_aload_n (q := 23) hx (dc kX1_barred_0 12 rfl) rfl 2 rfl rfl ?_
          refine j_aload_n (q := 24) hx (dc kX1_barred_0 13 rfl) rfl 0 rfl rfl ?_
          refine j_bipush (q := 26) (v := (20 : Int32)) hx (dc kX1_barred_0 14 rfl) (by decide) rfl ?_
          refine j_iload_n (q := 27) hx (dc kX1_barred_0 15 rfl) rfl 3 rfl rfl ?_
          refine j_iadd (q := 28) hx (dc kX1_barred_0 16 rfl) rfl ?_
          refine w_cVRR (q := 31) (As := [.int ((20 : Int32) + x3)]) (st := [vR x.2.2.2 x2]) hx (dc kX1_barred_0 17 rfl) cf1 (by decide) rfl (cI _ my_X1_table lm_X1_93 (by decide)) vs_X1_table rfl (fun u hu => sX1_table _ _ _ _ _ _ hu) (fun e => ite_ne (by unfold mX1_table at e; exact e)) (sum_le (sum_R sum_nil) (by decide)) rfl (fun v5 => ?_)
          refine w_cVIR (q := 34) (As := [vR x.2.2.2 v5]) (st := []) hx (dc kX1_barred_0 18 rfl) cf10 (by decide) rfl (cI _ my_X10_within lm_X1_138 (by decide)) vs_X10_within rfl (fun u hu => sX10_within _ _ _ _ _ _ hu) (fun e => ite_ne (by unfold mX10_within at e; exact e)) (Nat.zero_le _) rfl (fun v7 => ?_)
          refine j_if_eq (q := 37) (tgt := 39) hx (dc kX1_barred_0 19 rfl) (by decide) Iff.rfl rfl ?_ ?_
          · exact hb39 x0 x1 x2 x3
          · refine j_exit ?_
            refine j_iconst (q := 38) (v := (1 : Int32)) hx (dc kX1_barred_0 20 rfl) (by decide) rfl ?_
            exact r_cR hx (Or.inr rfl) hR (dc kX1_barred_0 21 rfl)
    exact j_loop (S := Int32) (lvf := fun s => [(0, vR x.2.2.2 x0), (1, .int x1), (2, vR x.2.2.2 x2), (3, .int s)]) (hpf := fun s => h) (f := (fun s : Int32 => mX1_barred_l2f x0 x1 x2 h s)) (fun s => hB s) x3
  unfold mX1_barred
  refine J.ckd fun hck => ?_
  refine j_iconst (q := 1) (v := (0 : Int32)) hx (dc kX1_barred_0 0 rfl) (by decide) rfl ?_
  refine j_istore_n (q := 2) (i := 3) (l2 := [(0, vR x.2.2.2 x0), (1, .int x1), (2, vR x.2.2.2 x2)]) hx (dc kX1_barred_0 1 rfl) rfl (hn 3 (by decide)) [0, 1, 2] rfl ⟨⟨show (0 : Nat) ≠ 3 by decide, Or.inl (show (0 : Nat) + 1 ≠ 3 by decide)⟩, ⟨⟨show (1 : Nat) ≠ 3 by decide, Or.inl (show (1 : Nat) + 1 ≠ 3 by decide)⟩, ⟨⟨show (2 : Nat) ≠ 3 by decide, Or.inr (vR_cat _ _)⟩, trivial⟩⟩⟩ rfl ?_
  exact j_sub [1, 2, 3, 0] rfl (hb2 x0 x1 x2 (0 : Int32))

set_option maxHeartbeats 4000000 in
set_option maxRecDepth 100000 in
theorem sX10_holds (l : Launch) (w : Wd) (x0 : Nat) (x1 : Int32) (h : Hp) (u : Int32) (hK : mX10_holds x0 x1 h = some u) : M1 l w mi_X10_holds 1 [vR w x0, .int x1] h h (some (.int u)) := by
  refine M1.of (own := RX10) (T := fun _ r => r = u) hK (by decide +kernel) rfl (by first | (simp only [lg_lenR, lg_lenI, lg_lenL, lg_len0]; decide) | decide) (fun x hx hnl hhf hl hw hret hnm hQ h0e => ⟨?_, rfl⟩)
  subst hw
  subst hl
  have hR : Rt x h h (some (.int u)) ((some .boolean)) := ⟨h0e, hhf, hret, hQ⟩
  have hn : ∀ i, i < 3 → i < x.2.2.1.1.1 := fun i hi => by rw [hnl]; exact hi
  have e0 : lv_args 0 [vR x.2.2.2 x0, .int x1] = [(0, vR x.2.2.2 x0), (1, .int x1)] := by simp only [lv_argsR, lv_argsI, lv_argsL, lv_args0]
  rw [e0]
  unfold mX10_holds
  refine J.ckd fun hck => ?_
  refine j_iload_n (q := 1) hx (dc kX10_holds_0 0 rfl) rfl 1 rfl rfl ?_
  refine j_bipush (q := 3) (v := (6 : Int32)) hx (dc kX10_holds_0 1 rfl) (by decide) rfl ?_
  refine j_ishr (q := 4) hx (dc kX10_holds_0 2 rfl) rfl ?_
  refine j_istore_n (q := 5) (i := 2) (l2 := [(0, vR x.2.2.2 x0), (1, .int x1)]) hx (dc kX10_holds_0 3 rfl) rfl (hn 2 (by decide)) [0, 1] rfl ⟨⟨show (0 : Nat) ≠ 2 by decide, Or.inl (show (0 : Nat) + 1 ≠ 2 by decide)⟩, ⟨⟨show (1 : Nat) ≠ 2 by decide, Or.inr rfl⟩, trivial⟩⟩ rfl ?_
  refine j_iload_n (q := 6) hx (dc kX10_holds_0 4 rfl) rfl 0 rfl rfl ?_
  refine j_if_lt (q := 9) (tgt := 40) hx (dc kX10_holds_0 5 rfl) (by decide) Iff.rfl rfl ?_ ?_
  · refine j_iconst (q := 41) (v := (0 : Int32)) hx (dc kX10_holds_0 26 rfl) (by decide) rfl ?_
    exact r_cR hx (Or.inl rfl) hR (dc kX10_holds_0 27 rfl)
  · refine j_iload_n (q := 10) hx (dc kX10_holds_0 6 rfl) rfl 0 rfl rfl ?_
    refine j_aload_n (q := 11) hx (dc kX10_holds_0 7 rfl) rfl 1 rfl rfl ?_
    refine w_gR (q := 14) hx (dc kX10_holds_0 8 rfl) ff_X10_0 lk_X10_9 rfl (fun v1 => ?_)
    refine j_alen (q := 15) hx (dc kX10_holds_0 9 rfl) rfl (fun v2 => ?_)
    refine j_icmp_geS (q := 18) (tgt := 40) hx (dc kX10_holds_0 10 rfl) (by decide) rfl ?_ ?_
    · refine j_iconst (q := 41) (v := (0 : Int32)) hx (dc kX10_holds_0 26 rfl) (by decide) rfl ?_
      exact r_cR hx (Or.inl rfl) hR (dc kX10_holds_0 27 rfl)
    · refine j_aload_n (q := 19) hx (dc kX10_holds_0 11 rfl) rfl 1 rfl rfl ?_
      refine w_gR (q := 22) hx (dc kX10_holds_0 12 rfl) ff_X10_0 lk_X10_9 rfl (fun v3 => ?_)
      refine j_iload_n (q := 23) hx (dc kX10_holds_0 13 rfl) rfl 0 rfl rfl ?_
      refine j_ldL (q := 24) hx (dc kX10_holds_0 14 rfl) rfl (fun v4 => ?_)
      refine j_iload_n (q := 25) hx (dc kX10_holds_0 15 rfl) rfl 2 rfl rfl ?_
      refine j_bipush (q := 27) (v := (63 : Int32)) hx (dc kX10_holds_0 16 rfl) (by decide) rfl ?_
      refine j_iand (q := 28) hx (dc kX10_holds_0 17 rfl) rfl ?_
      refine j_lushr (q := 29) hx (dc kX10_holds_0 18 rfl) rfl ?_
      refine j_lconst (q := 30) (v := (1 : Int64)) hx (dc kX10_holds_0 19 rfl) (by decide) rfl ?_
      refine j_land (q := 31) hx (dc kX10_holds_0 20 rfl) rfl ?_
      refine j_lconst (q := 32) (v := (0 : Int64)) hx (dc kX10_holds_0 21 rfl) (by decide) rfl ?_
      refine j_lcmp (q := 33) hx (dc kX10_holds_0 22 rfl) rfl ?_
      refine j_if_eq (q := 36) (tgt := 40) hx (dc kX10_holds_0 23 rfl) (by decide) Iff.rfl rfl ?_ ?_
      · refine j_iconst (q := 41) (v := (0 : Int32)) hx (dc kX10_holds_0 26 rfl) (by decide) rfl ?_
        exact r_cR hx (Or.inl rfl) hR (dc kX10_holds_0 27 rfl)
      · refine j_iconst (q := 37) (v := (1 : Int32)) hx (dc kX10_holds_0 24 rfl) (by decide) rfl ?_
        refine j_goto (q := 41) hx (dc kX10_holds_0 25 rfl) (by decide) ?_
        exact r_cR hx (Or.inr rfl) hR (dc kX10_holds_0 27 rfl)

set_option maxHeartbeats 4000000 in
set_option maxRecDepth 100000 in
theorem sX1_flawsAt (l : Launch) (w : Wd) (x0 : Nat) (x1 : Int32) (x2 : Int32) (h : Hp) (u : Int32) (hK : mX1_flawsAt x0 x1 x2 h = some u) : M1 l w mi_X1_flawsAt 2 [vR w x0, .int x1, .int x2] h h (some (.int u)) := by
  refine M1.of (own := RX1) (T := fun _ r => r = u) hK (by decide +kernel) rfl (by first | (simp only [lg_lenR, lg_lenI, lg_lenL, lg_len0]; decide) | decide) (fun x hx hnl hhf hl hw hret hnm hQ h0e => ⟨?_, rfl⟩)
  subst hw
  subst hl
  have hR : Rt x h h (some (.int u)) ((some .int)) := ⟨h0e, hhf, hret, hQ⟩
  have hn : ∀ i, i < 5 → i < x.2.2.1.1.1 := fun i hi => by rw [hnl]; exact hi
  have e0 : lv_args 0 [vR x.2.2.2 x0, .int x1, .int x2] = [(0, vR x.2.2.2 x0), (1, .int x1), (2, .int x2)] := by simp only [lv_argsR, lv_argsI, lv_argsL, lv_args0]
  rw [e0]
  have hb65 : ∀ (x0 : Nat) (x1 : Int32) (x2 : Int32) (x3 : Int32) (x4 : Int32), J x 65 [(0, vR x.2.2.2 x0), (1, .int x1), (2, .int x2), (3, .int x3), (4, .int x4)] [] h (mX1_flawsAt_l65 x0 x1 x2 x3 x4 h) (fun r => r = u) := by
    intro x0 x1 x2 x3 x4
    have hB : ∀ (x3 : Int32) (x4 : Int32), J x 65 [(0, vR x.2.2.2 x0), (1, .int x1), (2, .int x2), (3, .int x3), (4, .int x4)] [] h (mX1_flawsAt_l65f x0 x1 x2 h x3 x4) (TLo (S := (Int32 × Int32)) x 65 (fun s => [(0, vR x.2.2.2 x0), (1, .int x1), (2, .int x2), (3, .int s.1), (4, .int s.2)]) [] (fun s => h) (fun r => r = u)) := by
      intro x3 x4
      have hb110 : ∀ (x0 : Nat) (x1 : Int32) (x2 : Int32) (x3 : Int32) (x4 : Int32), J x 110 [(0, vR x.2.2.2 x0), (1, .int x1), (2, .int x2), (3, .int x3), (4, .int x4)] [] h (mX1_flawsAt_b110 x0 x1 x2 x3 x4 h) (TLo (S := (Int32 × Int32)) x 65 (fun s => [(0, vR x.2.2.2 x0), (1, .int x1), (2, .int x2), (3, .int s.1), (4, .int s.2)]) [] (fun s => h) (fun r => r = u)) := by
        intro x0 x1 x2 x3 x4
        unfold mX1_flawsAt_b110
        refine j_iinc (q := 113) (l2 := [(0, vR x.2.2.2 x0), (1, .int x1), (2, .int x2), (3, .int x3)]) hx (dc kX1_flawsAt_0 59 rfl) 4 rfl (v := (1 : Int32)) (by decide) (hn 4 (by decide)) [0, 1, 2, 3] rfl ⟨⟨show (0 : Nat) ≠ 4 by decide, Or.inl (show (0 : Nat) + 1 ≠ 4 by decide)⟩, ⟨⟨show (1 : Nat) ≠ 4 by decide, Or.inl (show (1 : Nat) + 1 ≠ 4 by decide)⟩, ⟨⟨show (2 : Nat) ≠ 4 by decide, Or.inl (show (2 : Nat) + 1 ≠ 4 by decide)⟩, ⟨⟨show (3 : Nat) ≠ 4 by decide, Or.inr rfl⟩, trivial⟩⟩⟩⟩ rfl ?_
        refine j_goto (q := 65) hx (dc kX1_flawsAt_0 60 rfl) (by decide) ?_
        exact j_back [1, 2, 3, 4, 0] (x3, (x4 + (1 : Int32))) rfl rfl
      unfold mX1_flawsAt_l65f
      refine j_iload (q := 67) hx (dc kX1_flawsAt_0 35 rfl) 4 rfl rfl ?_
      refine j_aload_n (q := 68) hx (dc kX1_flawsAt_0 36 rfl) rfl 0 rfl rfl ?_
      refine w_gI (q := 71) hx (dc kX1_flawsAt_0 37 rfl) ff_X1_4 lk_X1_69 rfl (fun v7 => ?_)
      refine j_icmp_geS (q := 74) (tgt := 116) hx (dc kX1_flawsAt_0 38 rfl) (by decide) rfl ?_ ?_
      · refine j_exit ?_
        refine j_iload_n (q := 117) hx (dc kX1_flawsAt_0 61 rfl) rfl 3 rfl rfl ?_
        exact r_iR hx hR (dc kX1_flawsAt_0 62 rfl)
      · refine j_aload_n (q := 75) hx (dc kX1_flawsAt_0 39 rfl) rfl 0 rfl rfl ?_
        refine w_gR (q := 78) hx (dc kX1_flawsAt_0 40 rfl) ff_X1_9 lk_X1_21 rfl (fun v8 => ?_)
        refine j_iload (q := 80) hx (dc kX1_flawsAt_0 41 rfl) 4 rfl rfl ?_
        refine w_cSIR (q := 83) (As := [vR x.2.2.2 v8, .int x4]) (st := []) hx (dc kX1_flawsAt_0 42 rfl) (cI _ my_X11_at lm_X1_89 (by decide)) st_X11_at rfl (fun u hu => sX11_at _ _ _ _ _ _ hu) (Nat.zero_le _) rfl (fun v9 => ?_)
        refine j_iload_n (q := 84) hx (dc kX1_flawsAt_0 43 rfl) rfl 1 rfl rfl ?_
        refine j_icmp_neS (q := 87) (tgt := 110) hx (dc kX1_flawsAt_0 44 rfl) (by decide) rfl ?_ ?_
        · exact hb110 x0 x1 x2 x3 x4
        · refine j_aload_n (q := 88) hx (dc kX1_flawsAt_0 45 rfl) rfl 0 rfl rfl ?_
          refine j_bipush (q := 90) (v := (20 : Int32)) hx (dc kX1_flawsAt_0 46 rfl) (by decide) rfl ?_
          refine j_iload (q := 92) hx (dc kX1_flawsAt_0 47 rfl) 4 rfl rfl ?_
          refine j_iadd (q := 93) hx (dc kX1_flawsAt_0 48 rfl) rfl ?_
          refine w_cVRR (q := 96) (As := [.int ((20 : Int32) + x4)]) (st := []) hx (dc kX1_flawsAt_0 49 rfl) cf1 (by decide) rfl (cI _ my_X1_table lm_X1_93 (by decide)) vs_X1_table rfl (fun u hu => sX1_table _ _ _ _ _ _ hu) (fun e => ite_ne (by unfold mX1_table at e; exact e)) (Nat.zero_le _) rfl (fun v11 => ?_)
          refine j_iload_n (q := 97) hx (dc kX1_flawsAt_0 50 rfl) rfl 2 rfl rfl ?_
          refine w_cVIR (q := 100) (As := [.int x2]) (st := []) hx (dc kX1_flawsAt_0 51 rfl) cf10 (by decide) rfl (cI _ my_X10_holds lm_X1_145 (by decide)) vs_X10_holds rfl (fun u hu => sX10_holds _ _ _ _ _ _ hu) (fun e => ite_ne (by unfold mX10_holds at e; exact e)) (Nat.zero_le _) rfl (fun v13 => ?_)
          refine j_if_neS (q := 103) (tgt := 110) hx (dc kX1_flawsAt_0 52 rfl) (by decide) rfl ?_ ?_
          · exact hb110 x0 x1 x2 x3 x4
          · refine j_iload_n (q := 104) hx (dc kX1_flawsAt_0 53 rfl) rfl 3 rfl rfl ?_
            refine j_iconst (q := 105) (v := (4 : Int32)) hx (dc kX1_flawsAt_0 54 rfl) (by decide) rfl ?_
            refine j_iload (q := 107) hx (dc kX1_flawsAt_0 55 rfl) 4 rfl rfl ?_
            refine j_ishl (q := 108) hx (dc kX1_flawsAt_0 56 rfl) rfl ?_
            refine j_ior (q := 109) hx (dc kX1_flawsAt_0 57 rfl) rfl ?_
            refine j_istore_n (q := 110) (i := 3) (l2 := [(0, vR x.2.2.2 x0), (1, .int x1), (2, .int x2), (4, .int x4)]) hx (dc kX1_flawsAt_0 58 rfl) rfl (hn 3 (by decide)) [0, 1, 2, 4] rfl ⟨⟨show (0 : Nat) ≠ 3 by decide, Or.inl (show (0 : Nat) + 1 ≠ 3 by decide)⟩, ⟨⟨show (1 : Nat) ≠ 3 by decide, Or.inl (show (1 : Nat) + 1 ≠ 3 by decide)⟩, ⟨⟨show (2 : Nat) ≠ 3 by decide, Or.inr rfl⟩, ⟨⟨show (4 : Nat) ≠ 3 by decide, Or.inl (show (4 : Nat) + 1 ≠ 3 by decide)⟩, trivial⟩⟩⟩⟩ rfl ?_
            exact j_sub [1, 2, 3, 0, 4] rfl (hb110 x0 x1 x2 (x3 ||| ((4 : Int32) <<< (x4 &&& 31))) x4)
    exact j_loop (S := (Int32 × Int32)) (lvf := fun s => [(0, vR x.2.2.2 x0), (1, .int x1), (2, .int x2), (3, .int s.1), (4, .int s.2)]) (hpf := fun s => h) (f := (fun s : (Int32 × Int32) => mX1_flawsAt_l65f x0 x1 x2 h s.1 s.2)) (fun s => hB s.1 s.2) (x3, x4)
  have hb18 : ∀ (x0 : Nat) (x1 : Int32) (x2 : Int32) (x3 : Int32) (x4 : Int32), J x 18 [(0, vR x.2.2.2 x0), (1, .int x1), (2, .int x2), (3, .int x3), (4, .int x4)] [] h (mX1_flawsAt_l18 x0 x1 x2 x3 x4 h) (fun r => r = u) := by
    intro x0 x1 x2 x3 x4
    have hB : ∀ (x3 : Int32) (x4 : Int32), J x 18 [(0, vR x.2.2.2 x0), (1, .int x1), (2, .int x2), (3, .int x3), (4, .int x4)] [] h (mX1_flawsAt_l18f x0 x1 x2 h x3 x4) (TLo (S := (Int32 × Int32)) x 18 (fun s => [(0, vR x.2.2.2 x0), (1, .int x1), (2, .int x2), (3, .int s.1), (4, .int s.2)]) [] (fun s => h) (fun r => r = u)) := by
      intro x3 x4
      have hb54 : ∀ (x0 : Nat) (x1 : Int32) (x2 : Int32) (x4 : Int32) (t0 : Int32) (t1 : Int32), J x 54 [(0, vR x.2.2.2 x0), (1, .int x1), (2, .int x2), (4, .int x4)] [.int t1, .int t0] h (mX1_flawsAt_b54 x0 x1 x2 x4 t0 t1 h) (TLo (S := (Int32 × Int32)) x 18 (fun s => [(0, vR x.2.2.2 x0), (1, .int x1), (2, .int x2), (3, .int s.1), (4, .int s.2)]) [] (fun s => h) (fun r => r = u)) := by
        intro x0 x1 x2 x4 t0 t1
        unfold mX1_flawsAt_b54
        refine j_ior (q := 55) hx (dc kX1_flawsAt_0 29 rfl) rfl ?_
        refine j_istore_n (q := 56) (i := 3) (l2 := [(0, vR x.2.2.2 x0), (1, .int x1), (2, .int x2), (4, .int x4)]) hx (dc kX1_flawsAt_0 30 rfl) rfl (hn 3 (by decide)) [0, 1, 2, 3] rfl ⟨⟨show (0 : Nat) ≠ 3 by decide, Or.inl (show (0 : Nat) + 1 ≠ 3 by decide)⟩, ⟨⟨show (1 : Nat) ≠ 3 by decide, Or.inl (show (1 : Nat) + 1 ≠ 3 by decide)⟩, ⟨⟨show (2 : Nat) ≠ 3 by decide, Or.inr rfl⟩, ⟨⟨show (4 : Nat) ≠ 3 by decide, Or.inl (show (4 : Nat) + 1 ≠ 3 by decide)⟩, trivial⟩⟩⟩⟩ rfl ?_
        refine j_iinc (q := 59) (l2 := [(3, .int (t0 ||| t1)), (0, vR x.2.2.2 x0), (1, .int x1), (2, .int x2)]) hx (dc kX1_flawsAt_0 31 rfl) 4 rfl (v := (1 : Int32)) (by decide) (hn 4 (by decide)) [0, 1, 2, 3] rfl ⟨⟨show (3 : Nat) ≠ 4 by decide, Or.inr rfl⟩, ⟨⟨show (0 : Nat) ≠ 4 by decide, Or.inl (show (0 : Nat) + 1 ≠ 4 by decide)⟩, ⟨⟨show (1 : Nat) ≠ 4 by decide, Or.inl (show (1 : Nat) + 1 ≠ 4 by decide)⟩, ⟨⟨show (2 : Nat) ≠ 4 by decide, Or.inl (show (2 : Nat) + 1 ≠ 4 by decide)⟩, trivial⟩⟩⟩⟩ rfl ?_
        refine j_goto (q := 18) hx (dc kX1_flawsAt_0 32 rfl) (by decide) ?_
        exact j_back [2, 3, 4, 1, 0] ((t0 ||| t1), (x4 + (1 : Int32))) rfl rfl
      unfold mX1_flawsAt_l18f
      refine j_iload (q := 20) hx (dc kX1_flawsAt_0 11 rfl) 4 rfl rfl ?_
      refine j_aload_n (q := 21) hx (dc kX1_flawsAt_0 12 rfl) rfl 0 rfl rfl ?_
      refine w_gR (q := 24) hx (dc kX1_flawsAt_0 13 rfl) ff_X1_8 lk_X1_18 rfl (fun v4 => ?_)
      refine j_iload_n (q := 25) hx (dc kX1_flawsAt_0 14 rfl) rfl 1 rfl rfl ?_
      refine w_cSIR (q := 28) (As := [vR x.2.2.2 v4, .int x1]) (st := [.int x4]) hx (dc kX1_flawsAt_0 15 rfl) (cI _ my_X11_at lm_X1_89 (by decide)) st_X11_at rfl (fun u hu => sX11_at _ _ _ _ _ _ hu) (sum_le (sum_I sum_nil) (by decide)) rfl (fun v5 => ?_)
      refine j_icmp_geS (q := 31) (tgt := 62) hx (dc kX1_flawsAt_0 16 rfl) (by decide) rfl ?_ ?_
      · refine j_exit ?_
        refine j_iconst (q := 63) (v := (0 : Int32)) hx (dc kX1_flawsAt_0 33 rfl) (by decide) rfl ?_
        refine j_istore (q := 65) (i := 4) (l2 := [(0, vR x.2.2.2 x0), (1, .int x1), (2, .int x2), (3, .int x3)]) hx (dc kX1_flawsAt_0 34 rfl) (hn 4 (by decide)) [0, 1, 2, 3] rfl ⟨⟨show (0 : Nat) ≠ 4 by decide, Or.inl (show (0 : Nat) + 1 ≠ 4 by decide)⟩, ⟨⟨show (1 : Nat) ≠ 4 by decide, Or.inl (show (1 : Nat) + 1 ≠ 4 by decide)⟩, ⟨⟨show (2 : Nat) ≠ 4 by decide, Or.inl (show (2 : Nat) + 1 ≠ 4 by decide)⟩, ⟨⟨show (3 : Nat) ≠ 4 by decide, Or.inr rfl⟩, trivial⟩⟩⟩⟩ rfl ?_
        exact j_sub [1, 2, 3, 4, 0] rfl (hb65 x0 x1 x2 x3 (0 : Int32))
      · refine j_iload_n (q := 32) hx (dc kX1_flawsAt_0 17 rfl) rfl 3 rfl rfl ?_
        refine j_aload_n (q := 33) hx (dc kX1_flawsAt_0 18 rfl) rfl 0 rfl rfl ?_
        refine j_iload_n (q := 34) hx (dc kX1_flawsAt_0 19 rfl) rfl 1 rfl rfl ?_
        refine j_iload (q := 36) hx (dc kX1_flawsAt_0 20 rfl) 4 rfl rfl ?_
        refine w_cSIR (q := 39) (As := [.int x1, .int x4]) (st := [vR x.2.2.2 x0, .int x3]) hx (dc kX1_flawsAt_0 21 rfl) (cI _ my_X11_needSlot lm_X1_118 (by decide)) st_X11_needSlot rfl (fun u hu => sX11_needSlot _ _ _ _ _ _ hu) (sum_le (sum_R (sum_I sum_nil)) (by decide)) rfl (fun v15 => ?_)
        refine w_cVRR (q := 42) (As := [.int v15]) (st := [.int x3]) hx (dc kX1_flawsAt_0 22 rfl) cf1 (by decide) rfl (cI _ my_X1_table lm_X1_93 (by decide)) vs_X1_table rfl (fun u hu => sX1_table _ _ _ _ _ _ hu) (fun e => ite_ne (by unfold mX1_table at e; exact e)) (sum_le (sum_I sum_nil) (by decide)) rfl (fun v17 => ?_)
        refine j_iload_n (q := 43) hx (dc kX1_flawsAt_0 23 rfl) rfl 2 rfl rfl ?_
        refine w_cVIR (q := 46) (As := [.int x2]) (st := [.int x3]) hx (dc kX1_flawsAt_0 24 rfl) cf10 (by decide) rfl (cI _ my_X10_holds lm_X1_145 (by decide)) vs_X10_holds rfl (fun u hu => sX10_holds _ _ _ _ _ _ hu) (fun e => ite_ne (by unfold mX10_holds at e; exact e)) (sum_le (sum_I sum_nil) (by decide)) rfl (fun v19 => ?_)
        refine j_if_eq (q := 49) (tgt := 53) hx (dc kX1_flawsAt_0 25 rfl) (by decide) Iff.rfl rfl ?_ ?_
        · refine j_iconst (q := 54) (v := (2 : Int32)) hx (dc kX1_flawsAt_0 28 rfl) (by decide) rfl ?_
          exact j_sub [0, 1, 2, 4] rfl (hb54 x0 x1 x2 x4 x3 (2 : Int32))
        · refine j_iconst (q := 50) (v := (0 : Int32)) hx (dc kX1_flawsAt_0 26 rfl) (by decide) rfl ?_
          refine j_goto (q := 54) hx (dc kX1_flawsAt_0 27 rfl) (by decide) ?_
          exact j_sub [0, 1, 2, 4] rfl (hb54 x0 x1 x2 x4 x3 (0 : Int32))
    exact j_loop (S := (Int32 × Int32)) (lvf := fun s => [(0, vR x.2.2.2 x0), (1, .int x1), (2, .int x2), (3, .int s.1), (4, .int s.2)]) (hpf := fun s => h) (f := (fun s : (Int32 × Int32) => mX1_flawsAt_l18f x0 x1 x2 h s.1 s.2)) (fun s => hB s.1 s.2) (x3, x4)
  unfold mX1_flawsAt
  refine J.ckd fun hck => ?_
  refine j_aload_n (q := 1) hx (dc kX1_flawsAt_0 0 rfl) rfl 0 rfl rfl ?_
  refine w_gR (q := 4) hx (dc kX1_flawsAt_0 1 rfl) ff_X1_17 lk_X1_45 rfl (fun v1 => ?_)
  refine j_iload_n (q := 5) hx (dc kX1_flawsAt_0 2 rfl) rfl 2 rfl rfl ?_
  refine w_cVIR (q := 8) (As := [.int x2]) (st := []) hx (dc kX1_flawsAt_0 3 rfl) cf10 (by decide) rfl (cI _ my_X10_holds lm_X1_145 (by decide)) vs_X10_holds rfl (fun u hu => sX10_holds _ _ _ _ _ _ hu) (fun e => ite_ne (by unfold mX10_holds at e; exact e)) (Nat.zero_le _) rfl (fun v2 => ?_)
  refine j_if_neS (q := 11) (tgt := 13) hx (dc kX1_flawsAt_0 4 rfl) (by decide) rfl ?_ ?_
  · refine j_iconst (q := 14) (v := (1 : Int32)) hx (dc kX1_flawsAt_0 7 rfl) (by decide) rfl ?_
    refine j_istore_n (q := 15) (i := 3) (l2 := [(0, vR x.2.2.2 x0), (1, .int x1), (2, .int x2)]) hx (dc kX1_flawsAt_0 8 rfl) rfl (hn 3 (by decide)) [0, 1, 2] rfl ⟨⟨show (0 : Nat) ≠ 3 by decide, Or.inl (show (0 : Nat) + 1 ≠ 3 by decide)⟩, ⟨⟨show (1 : Nat) ≠ 3 by decide, Or.inl (show (1 : Nat) + 1 ≠ 3 by decide)⟩, ⟨⟨show (2 : Nat) ≠ 3 by decide, Or.inr rfl⟩, trivial⟩⟩⟩ rfl ?_
    refine j_iconst (q := 16) (v := (0 : Int32)) hx (dc kX1_flawsAt_0 9 rfl) (by decide) rfl ?_
    refine j_istore (q := 18) (i := 4) (l2 := [(3, .int (1 : Int32)), (0, vR x.2.2.2 x0), (1, .int x1), (2, .int x2)]) hx (dc kX1_flawsAt_0 10 rfl) (hn 4 (by decide)) [0, 1, 2, 3] rfl ⟨⟨show (3 : Nat) ≠ 4 by decide, Or.inr rfl⟩, ⟨⟨show (0 : Nat) ≠ 4 by decide, Or.inl (show (0 : Nat) + 1 ≠ 4 by decide)⟩, ⟨⟨show (1 : Nat) ≠ 4 by decide, Or.inl (show (1 : Nat) + 1 ≠ 4 by decide)⟩, ⟨⟨show (2 : Nat) ≠ 4 by decide, Or.inl (show (2 : Nat) + 1 ≠ 4 by decide)⟩, trivial⟩⟩⟩⟩ rfl ?_
    exact j_sub [2, 3, 4, 1, 0] rfl (hb18 x0 x1 x2 (1 : Int32) (0 : Int32))
  · refine j_iconst (q := 12) (v := (0 : Int32)) hx (dc kX1_flawsAt_0 5 rfl) (by decide) rfl ?_
    exact r_iR hx hR (dc kX1_flawsAt_0 6 rfl)

