set_option maxHeartbeats 4000000 in
set_option maxRecDepth 100000 in
theorem sJxa1e45_init_da8c8 {x0 : Nat} (hvx0 : x0 ≠ 0) (l : Launch) (w : Wd) (h : Hp) (u : Unit) (hK : mJxa1e45_init_da8c8 x0 h = some u) : M1 l w mi_Jxa1e45_init_da8c8 1 [vR w x0] h h (none) := by
  refine M1.of (own := RJxa1e45) (T := fun _ r => r = u) hK (by decide +kernel) rfl (by first | (simp only [lg_lenR, lg_lenI, lg_lenL, lg_len0]; decide) | decide) (fun x hx hnl hhf hl hw hret hnm hQ h0e => ⟨?_, rfl⟩)
  subst hw
  subst hl
  have hR : Rt x h h (none) (none) := ⟨h0e, hhf, hret, hQ⟩
  have hn : ∀ i, i < 1 → i < x.2.2.1.1.1 := fun i hi => by rw [hnl]; exact hi
  have e0 : lv_args 0 [vR x.2.2.2 x0] = [(0, vR x.2.2.2 x0)] := by simp only [lv_argsR, lv_argsI, lv_argsL, lv_args0]
  rw [e0]
  unfold mJxa1e45_init_da8c8
  refine j_aload_n (q := 1) hx (dc kJxa1e45_init_da8c8_0 0 rfl) rfl 0 rfl rfl ?_
  refine j_obj (q := 4) hx (dc kJxa1e45_init_da8c8_0 1 rfl) lo_Jxa1e45_1 hvx0 (by decide) (Nat.zero_le _) rfl ?_
  exact r_vR hx hR (dc kJxa1e45_init_da8c8_0 2 rfl)

set_option maxHeartbeats 4000000 in
set_option maxRecDepth 100000 in
theorem sJxc12de_init_da8c8 {x0 : Nat} (hvx0 : x0 ≠ 0) (l : Launch) (w : Wd) (h : Hp) (u : Hp) (hK : mJxc12de_init_da8c8 x0 h = some u) : M1 l w mi_Jxc12de_init_da8c8 2 [vR w x0] h u (none) := by
  refine M1.of (own := RJxc12de) (T := fun _ r => r = u) hK (by decide +kernel) rfl (by first | (simp only [lg_lenR, lg_lenI, lg_lenL, lg_len0]; decide) | decide) (fun x hx hnl hhf hl hw hret hnm hQ h0e => ⟨?_, rfl⟩)
  subst hw
  subst hl
  have hR : Rt x h u (none) (none) := ⟨h0e, hhf, hret, hQ⟩
  have hn : ∀ i, i < 1 → i < x.2.2.1.1.1 := fun i hi => by rw [hnl]; exact hi
  have e0 : lv_args 0 [vR x.2.2.2 x0] = [(0, vR x.2.2.2 x0)] := by simp only [lv_argsR, lv_argsI, lv_argsL, lv_args0]
  rw [e0]
  unfold mJxc12de_init_da8c8
  refine j_aload_n (q := 1) hx (dc kJxc12de_init_da8c8_0 0 rfl) rfl 0 rfl rfl ?_
  refine w_cIVR (q := 4) (As := []) (st := []) hx (dc kJxc12de_init_da8c8_0 1 rfl) (cI _ my_Jxa1e45_init_da8c8 lm_Jxc12de_1 (by decide)) is_Jxa1e45_init_da8c8 rfl rfl (fun u hu => sJxa1e45_init_da8c8 hvx0 _ _ _ _ hu) hvx0 (Nat.zero_le _) rfl (fun _ => ?_)
  refine j_aload_n (q := 5) hx (dc kJxc12de_init_da8c8_0 2 rfl) rfl 0 rfl rfl ?_
  refine j_iconst (q := 6) (v := (0 : Int32)) hx (dc kJxc12de_init_da8c8_0 3 rfl) (by decide) rfl ?_
  refine w_sI (q := 9) hx (dc kJxc12de_init_da8c8_0 4 rfl) ff_Jx4a65c_0 rfl lk_Jxc12de_7 (Or.inl rfl) rfl (fun h3 => ?_)
  exact r_vW hx hR (dc kJxc12de_init_da8c8_0 5 rfl)

set_option maxHeartbeats 4000000 in
set_option maxRecDepth 100000 in
theorem sJx4a65c_init_da8c8 {x0 : Nat} (hvx0 : x0 ≠ 0) (l : Launch) (w : Wd) (h : Hp) (u : Hp) (hK : mJx4a65c_init_da8c8 x0 h = some u) : M1 l w mi_Jx4a65c_init_da8c8 3 [vR w x0] h u (none) := by
  refine M1.of (own := RJx4a65c) (T := fun _ r => r = u) hK (by decide +kernel) rfl (by first | (simp only [lg_lenR, lg_lenI, lg_lenL, lg_len0]; decide) | decide) (fun x hx hnl hhf hl hw hret hnm hQ h0e => ⟨?_, rfl⟩)
  subst hw
  subst hl
  have hR : Rt x h u (none) (none) := ⟨h0e, hhf, hret, hQ⟩
  have hn : ∀ i, i < 1 → i < x.2.2.1.1.1 := fun i hi => by rw [hnl]; exact hi
  have e0 : lv_args 0 [vR x.2.2.2 x0] = [(0, vR x.2.2.2 x0)] := by simp only [lv_argsR, lv_argsI, lv_argsL, lv_args0]
  rw [e0]
  unfold mJx4a65c_init_da8c8
  refine j_aload_n (q := 1) hx (dc kJx4a65c_init_da8c8_0 0 rfl) rfl 0 rfl rfl ?_
  refine w_cIVW (q := 4) (As := []) (st := []) hx (dc kJx4a65c_init_da8c8_0 1 rfl) (cI _ my_Jxc12de_init_da8c8 lm_Jx4a65c_1 (by decide)) is_Jxc12de_init_da8c8 rfl rfl (fun u hu => sJxc12de_init_da8c8 hvx0 _ _ _ _ hu) hvx0 (Nat.zero_le _) rfl (fun h2 => ?_)
  refine j_aload_n (q := 5) hx (dc kJx4a65c_init_da8c8_0 2 rfl) rfl 0 rfl rfl ?_
  refine j_gs (a := 4) (q := 8) hx (dc kJx4a65c_init_da8c8_0 3 rfl) gs_Jx4a65c_39 gz_4 rfl ?_
  refine w_sR (q := 11) hx (dc kJx4a65c_init_da8c8_0 4 rfl) ff_Jx4a65c_1 lk_Jx4a65c_9 (Or.inl rfl) rfl (fun h3 => ?_)
  exact r_vW hx hR (dc kJx4a65c_init_da8c8_0 5 rfl)

set_option maxHeartbeats 4000000 in
set_option maxRecDepth 100000 in
theorem sX14_init {x0 : Nat} (hvx0 : x0 ≠ 0) (l : Launch) (w : Wd) (h : Hp) (u : Hp) (hK : mX14_init x0 h = some u) : M1 l w mi_X14_init 4 [vR w x0] h u (none) := by
  refine M1.of (own := RX14) (T := fun _ r => r = u) hK (by decide +kernel) rfl (by first | (simp only [lg_lenR, lg_lenI, lg_lenL, lg_len0]; decide) | decide) (fun x hx hnl hhf hl hw hret hnm hQ h0e => ⟨?_, rfl⟩)
  subst hw
  subst hl
  have hR : Rt x h u (none) (none) := ⟨h0e, hhf, hret, hQ⟩
  have hn : ∀ i, i < 1 → i < x.2.2.1.1.1 := fun i hi => by rw [hnl]; exact hi
  have e0 : lv_args 0 [vR x.2.2.2 x0] = [(0, vR x.2.2.2 x0)] := by simp only [lv_argsR, lv_argsI, lv_argsL, lv_args0]
  rw [e0]
  unfold mX14_init
  refine j_aload_n (q := 1) hx (dc kX14_init_0 0 rfl) rfl 0 rfl rfl ?_
  refine j_obj (q := 4) hx (dc kX14_init_0 1 rfl) lo_X14_1 hvx0 (by decide) (Nat.zero_le _) rfl ?_
  refine j_aload_n (q := 5) hx (dc kX14_init_0 2 rfl) rfl 0 rfl rfl ?_
  refine j_bipush (q := 7) (v := (8 : Int32)) hx (dc kX14_init_0 3 rfl) (by decide) rfl ?_
  refine j_newarray50 (q := 9) hx (dc kX14_init_0 4 rfl) ac_I (by decide) (by decide) (by decide) rfl (fun v2 hvv2 h1 => ?_)
  refine w_sR (q := 12) hx (dc kX14_init_0 5 rfl) ff_X14_0 lk_X14_7 (Or.inr ⟨hnm, rfl, rfl, lt_X14_7⟩) rfl (fun h3 => ?_)
  refine j_aload_n (q := 13) hx (dc kX14_init_0 6 rfl) rfl 0 rfl rfl ?_
  refine j_bipush (q := 15) (v := (8 : Int32)) hx (dc kX14_init_0 7 rfl) (by decide) rfl ?_
  refine j_newarray50 (q := 17) hx (dc kX14_init_0 8 rfl) ac_I (by decide) (by decide) (by decide) rfl (fun v5 hvv5 h4 => ?_)
  refine w_sR (q := 20) hx (dc kX14_init_0 9 rfl) ff_X14_1 lk_X14_13 (Or.inr ⟨hnm, rfl, rfl, lt_X14_13⟩) rfl (fun h6 => ?_)
  refine j_aload_n (q := 21) hx (dc kX14_init_0 10 rfl) rfl 0 rfl rfl ?_
  refine j_new (q := 24) hx (dc kX14_init_0 11 rfl) cf18 (by decide) nw_X14_16 rfl (fun v8 hvv8 h7 => ?_)
  refine j_dup (q := 25) hx (dc kX14_init_0 12 rfl) (vR_cat _ _) rfl ?_
  refine w_cIVW (q := 28) (As := []) (st := [vR x.2.2.2 v8, vR x.2.2.2 x0]) hx (dc kX14_init_0 13 rfl) (cI _ my_Jx4a65c_init_da8c8 lm_X14_18 (by decide)) is_Jx4a65c_init_da8c8 rfl rfl (fun u hu => sJx4a65c_init_da8c8 hvv8 _ _ _ _ hu) hvv8 (sum_le (sum_R (sum_R sum_nil)) (by decide)) rfl (fun h10 => ?_)
  refine w_sR (q := 31) hx (dc kX14_init_0 14 rfl) ff_X14_2 lk_X14_19 (Or.inr ⟨hnm, rfl, rfl, lt_X14_19⟩) rfl (fun h11 => ?_)
  exact r_vW hx hR (dc kX14_init_0 15 rfl)

set_option maxHeartbeats 4000000 in
set_option maxRecDepth 100000 in
theorem sJx35411_init_45d68 {x0 : Nat} (hvx0 : x0 ≠ 0) (l : Launch) (w : Wd) (x1 : Nat) (h : Hp) (u : Hp) (hK : mJx35411_init_45d68 x0 x1 h = some u) : M1 l w mi_Jx35411_init_45d68 1 [vR w x0, vR w x1] h u (none) := by
  refine M1.of (own := RJx35411) (T := fun _ r => r = u) hK (by decide +kernel) rfl (by first | (simp only [lg_lenR, lg_lenI, lg_lenL, lg_len0]; decide) | decide) (fun x hx hnl hhf hl hw hret hnm hQ h0e => ⟨?_, rfl⟩)
  subst hw
  subst hl
  have hR : Rt x h u (none) (none) := ⟨h0e, hhf, hret, hQ⟩
  have hn : ∀ i, i < 2 → i < x.2.2.1.1.1 := fun i hi => by rw [hnl]; exact hi
  have e0 : lv_args 0 [vR x.2.2.2 x0, vR x.2.2.2 x1] = [(0, vR x.2.2.2 x0), (1, vR x.2.2.2 x1)] := by simp only [lv_argsR, lv_argsI, lv_argsL, lv_args0]
  rw [e0]
  unfold mJx35411_init_45d68
  refine j_aload_n (q := 1) hx (dc kJx35411_init_45d68_0 0 rfl) rfl 0 rfl rfl ?_
  refine j_aload_n (q := 2) hx (dc kJx35411_init_45d68_0 1 rfl) rfl 1 rfl rfl ?_
  refine w_sR (q := 5) hx (dc kJx35411_init_45d68_0 2 rfl) ff_Jx35411_3 lk_Jx35411_1 (Or.inr ⟨hnm, rfl, rfl, lt_Jx35411_1⟩) rfl (fun h1 => ?_)
  refine j_aload_n (q := 6) hx (dc kJx35411_init_45d68_0 3 rfl) rfl 0 rfl rfl ?_
  refine j_obj (q := 9) hx (dc kJx35411_init_45d68_0 4 rfl) lo_Jx35411_7 hvx0 (by decide) (Nat.zero_le _) rfl ?_
  refine j_aload_n (q := 10) hx (dc kJx35411_init_45d68_0 5 rfl) rfl 0 rfl rfl ?_
  refine j_iconst (q := 11) (v := (-1 : Int32)) hx (dc kJx35411_init_45d68_0 6 rfl) (by decide) rfl ?_
  refine w_sI (q := 14) hx (dc kJx35411_init_45d68_0 7 rfl) ff_Jx35411_1 rfl lk_Jx35411_13 (Or.inl rfl) rfl (fun h2 => ?_)
  refine j_aload_n (q := 15) hx (dc kJx35411_init_45d68_0 8 rfl) rfl 0 rfl rfl ?_
  refine j_aload_n (q := 16) hx (dc kJx35411_init_45d68_0 9 rfl) rfl 0 rfl rfl ?_
  refine w_gR (q := 19) hx (dc kJx35411_init_45d68_0 10 rfl) ff_Jx35411_3 lk_Jx35411_1 rfl (fun v3 => ?_)
  refine w_gI (q := 22) hx (dc kJx35411_init_45d68_0 11 rfl) ff_Jx4a65c_0 lk_Jx35411_17 rfl (fun v4 => ?_)
  refine w_sI (q := 25) hx (dc kJx35411_init_45d68_0 12 rfl) ff_Jx35411_2 rfl lk_Jx35411_22 (Or.inl rfl) rfl (fun h5 => ?_)
  exact r_vW hx hR (dc kJx35411_init_45d68_0 13 rfl)

set_option maxHeartbeats 4000000 in
set_option maxRecDepth 100000 in
theorem sJx35411_hasNext_aae02 (l : Launch) (w : Wd) (x0 : Nat) (h : Hp) (u : Int32) (hK : mJx35411_hasNext_aae02 x0 h = some u) : M1 l w mi_Jx35411_hasNext_aae02 1 [vR w x0] h h (some (.int u)) := by
  refine M1.of (own := RJx35411) (T := fun _ r => r = u) hK (by decide +kernel) rfl (by first | (simp only [lg_lenR, lg_lenI, lg_lenL, lg_len0]; decide) | decide) (fun x hx hnl hhf hl hw hret hnm hQ h0e => ⟨?_, rfl⟩)
  subst hw
  subst hl
  have hR : Rt x h h (some (.int u)) ((some .boolean)) := ⟨h0e, hhf, hret, hQ⟩
  have hn : ∀ i, i < 1 → i < x.2.2.1.1.1 := fun i hi => by rw [hnl]; exact hi
  have e0 : lv_args 0 [vR x.2.2.2 x0] = [(0, vR x.2.2.2 x0)] := by simp only [lv_argsR, lv_argsI, lv_argsL, lv_args0]
  rw [e0]
  unfold mJx35411_hasNext_aae02
  refine J.ckd fun hck => ?_
  refine j_aload_n (q := 1) hx (dc kJx35411_hasNext_aae02_0 0 rfl) rfl 0 rfl rfl ?_
  refine w_gI (q := 4) hx (dc kJx35411_hasNext_aae02_0 1 rfl) ff_Jx35411_0 lk_Jx35411_25 rfl (fun v1 => ?_)
  refine j_aload_n (q := 5) hx (dc kJx35411_hasNext_aae02_0 2 rfl) rfl 0 rfl rfl ?_
  refine w_gR (q := 8) hx (dc kJx35411_hasNext_aae02_0 3 rfl) ff_Jx35411_3 lk_Jx35411_1 rfl (fun v2 => ?_)
  refine w_gI (q := 11) hx (dc kJx35411_hasNext_aae02_0 4 rfl) ff_Jx4a65c_2 lk_Jx35411_28 rfl (fun v3 => ?_)
  refine j_icmp_eq (q := 14) (tgt := 18) hx (dc kJx35411_hasNext_aae02_0 5 rfl) (by decide) Iff.rfl rfl ?_ ?_
  · refine j_iconst (q := 19) (v := (0 : Int32)) hx (dc kJx35411_hasNext_aae02_0 8 rfl) (by decide) rfl ?_
    exact r_cR hx (Or.inl rfl) hR (dc kJx35411_hasNext_aae02_0 9 rfl)
  · refine j_iconst (q := 15) (v := (1 : Int32)) hx (dc kJx35411_hasNext_aae02_0 6 rfl) (by decide) rfl ?_
    refine j_goto (q := 19) hx (dc kJx35411_hasNext_aae02_0 7 rfl) (by decide) ?_
    exact r_cR hx (Or.inr rfl) hR (dc kJx35411_hasNext_aae02_0 9 rfl)

set_option maxHeartbeats 4000000 in
set_option maxRecDepth 100000 in
theorem sJx35411_checkForComodification_da8c8 (l : Launch) (w : Wd) (x0 : Nat) (h : Hp) (u : Unit) (hK : mJx35411_checkForComodification_da8c8 x0 h = some u) : M1 l w mi_Jx35411_checkForComodification_da8c8 1 [vR w x0] h h (none) := by
  refine M1.of (own := RJx35411) (T := fun _ r => r = u) hK (by decide +kernel) rfl (by first | (simp only [lg_lenR, lg_lenI, lg_lenL, lg_len0]; decide) | decide) (fun x hx hnl hhf hl hw hret hnm hQ h0e => ⟨?_, rfl⟩)
  subst hw
  subst hl
  have hR : Rt x h h (none) (none) := ⟨h0e, hhf, hret, hQ⟩
  have hn : ∀ i, i < 1 → i < x.2.2.1.1.1 := fun i hi => by rw [hnl]; exact hi
  have e0 : lv_args 0 [vR x.2.2.2 x0] = [(0, vR x.2.2.2 x0)] := by simp only [lv_argsR, lv_argsI, lv_argsL, lv_args0]
  rw [e0]
  unfold mJx35411_checkForComodification_da8c8
  refine J.ckd fun hck => ?_
  refine j_aload_n (q := 1) hx (dc kJx35411_checkForComodification_da8c8_0 0 rfl) rfl 0 rfl rfl ?_
  refine w_gR (q := 4) hx (dc kJx35411_checkForComodification_da8c8_0 1 rfl) ff_Jx35411_3 lk_Jx35411_1 rfl (fun v1 => ?_)
  refine w_gI (q := 7) hx (dc kJx35411_checkForComodification_da8c8_0 2 rfl) ff_Jx4a65c_0 lk_Jx35411_17 rfl (fun v2 => ?_)
  refine j_aload_n (q := 8) hx (dc kJx35411_checkForComodification_da8c8_0 3 rfl) rfl 0 rfl rfl ?_
  refine w_gI (q := 11) hx (dc kJx35411_checkForComodification_da8c8_0 4 rfl) ff_Jx35411_2 lk_Jx35411_22 rfl (fun v3 => ?_)
  refine j_icmp_eq (q := 14) (tgt := 22) hx (dc kJx35411_checkForComodification_da8c8_0 5 rfl) (by decide) Iff.rfl rfl ?_ ?_
  · exact r_vR hx hR (dc kJx35411_checkForComodification_da8c8_0 10 rfl)
  · exact j_none

set_option maxHeartbeats 4000000 in
set_option maxRecDepth 100000 in
theorem sJx35411_next_0502b (l : Launch) (w : Wd) (x0 : Nat) (h : Hp) (u : (Nat × Hp)) (hK : mJx35411_next_0502b x0 h = some u) : M1 l w mi_Jx35411_next_0502b 2 [vR w x0] h u.2 (some (vR w u.1)) := by
  refine M1.of (own := RJx35411) (T := fun _ r => r = u) hK (by decide +kernel) rfl (by first | (simp only [lg_lenR, lg_lenI, lg_lenL, lg_len0]; decide) | decide) (fun x hx hnl hhf hl hw hret hnm hQ h0e => ⟨?_, rfl⟩)
  subst hw
  subst hl
  have hR : Rt x h u.2 (some (vR x.2.2.2 u.1)) ((some (.object "java/lang/Object"))) := ⟨h0e, hhf, hret, hQ⟩
  have hn : ∀ i, i < 3 → i < x.2.2.1.1.1 := fun i hi => by rw [hnl]; exact hi
  have e0 : lv_args 0 [vR x.2.2.2 x0] = [(0, vR x.2.2.2 x0)] := by simp only [lv_argsR, lv_argsI, lv_argsL, lv_args0]
  rw [e0]
  unfold mJx35411_next_0502b
  refine J.ckd fun hck => ?_
  refine j_aload_n (q := 1) hx (dc kJx35411_next_0502b_0 0 rfl) rfl 0 rfl rfl ?_
  refine w_cVVR (q := 4) (As := []) (st := []) hx (dc kJx35411_next_0502b_0 1 rfl) cf19 (by decide) rfl (cI _ my_Jx35411_checkForComodification_da8c8 lm_Jx35411_31 (by decide)) vs_Jx35411_checkForComodification_da8c8 rfl (fun u hu => sJx35411_checkForComodification_da8c8 _ _ _ _ _ hu) (fun e => ite_ne (by unfold mJx35411_checkForComodification_da8c8 at e; exact e)) (Nat.zero_le _) rfl (fun _ => ?_)
  refine j_aload_n (q := 5) hx (dc kJx35411_next_0502b_0 2 rfl) rfl 0 rfl rfl ?_
  refine w_gI (q := 8) hx (dc kJx35411_next_0502b_0 3 rfl) ff_Jx35411_0 lk_Jx35411_25 rfl (fun v3 => ?_)
  refine j_istore_n (q := 9) (i := 1) (l2 := [(0, vR x.2.2.2 x0)]) hx (dc kJx35411_next_0502b_0 4 rfl) rfl (hn 1 (by decide)) [0] rfl ⟨⟨show (0 : Nat) ≠ 1 by decide, Or.inr (vR_cat _ _)⟩, trivial⟩ rfl ?_
  refine j_iload_n (q := 10) hx (dc kJx35411_next_0502b_0 5 rfl) rfl 0 rfl rfl ?_
  refine j_aload_n (q := 11) hx (dc kJx35411_next_0502b_0 6 rfl) rfl 1 rfl rfl ?_
  refine w_gR (q := 14) hx (dc kJx35411_next_0502b_0 7 rfl) ff_Jx35411_3 lk_Jx35411_1 rfl (fun v4 => ?_)
  refine w_gI (q := 17) hx (dc kJx35411_next_0502b_0 8 rfl) ff_Jx4a65c_2 lk_Jx35411_28 rfl (fun v5 => ?_)
  refine j_icmp_lt (q := 20) (tgt := 28) hx (dc kJx35411_next_0502b_0 9 rfl) (by decide) Iff.rfl rfl ?_ ?_
  · refine j_aload_n (q := 29) hx (dc kJx35411_next_0502b_0 14 rfl) rfl 1 rfl rfl ?_
    refine w_gR (q := 32) hx (dc kJx35411_next_0502b_0 15 rfl) ff_Jx35411_3 lk_Jx35411_1 rfl (fun v6 => ?_)
    refine w_gR (q := 35) hx (dc kJx35411_next_0502b_0 16 rfl) ff_Jx4a65c_1 lk_Jx35411_37 rfl (fun v7 => ?_)
    refine j_astore_n (q := 36) (i := 2) (l2 := [(1, .int v3), (0, vR x.2.2.2 x0)]) hx (dc kJx35411_next_0502b_0 17 rfl) rfl (hn 2 (by decide)) [0, 1] rfl ⟨⟨show (1 : Nat) ≠ 2 by decide, Or.inr rfl⟩, ⟨⟨show (0 : Nat) ≠ 2 by decide, Or.inl (show (0 : Nat) + 1 ≠ 2 by decide)⟩, trivial⟩⟩ rfl ?_
    refine j_iload_n (q := 37) hx (dc kJx35411_next_0502b_0 18 rfl) rfl 1 rfl rfl ?_
    refine j_aload_n (q := 38) hx (dc kJx35411_next_0502b_0 19 rfl) rfl 0 rfl rfl ?_
    refine j_oLn (q := 39) hx (dc kJx35411_next_0502b_0 20 rfl) rfl (fun v8 => ?_)
    refine j_icmp_lt (q := 42) (tgt := 50) hx (dc kJx35411_next_0502b_0 21 rfl) (by decide) Iff.rfl rfl ?_ ?_
    · refine j_aload_n (q := 51) hx (dc kJx35411_next_0502b_0 26 rfl) rfl 2 rfl rfl ?_
      refine j_iload_n (q := 52) hx (dc kJx35411_next_0502b_0 27 rfl) rfl 1 rfl rfl ?_
      refine j_iconst (q := 53) (v := (1 : Int32)) hx (dc kJx35411_next_0502b_0 28 rfl) (by decide) rfl ?_
      refine j_iadd (q := 54) hx (dc kJx35411_next_0502b_0 29 rfl) rfl ?_
      refine w_sI (q := 57) hx (dc kJx35411_next_0502b_0 30 rfl) ff_Jx35411_0 rfl lk_Jx35411_25 (Or.inl rfl) rfl (fun h9 => ?_)
      refine j_aload_n (q := 58) hx (dc kJx35411_next_0502b_0 31 rfl) rfl 0 rfl rfl ?_
      refine j_aload_n (q := 59) hx (dc kJx35411_next_0502b_0 32 rfl) rfl 2 rfl rfl ?_
      refine j_iload_n (q := 60) hx (dc kJx35411_next_0502b_0 33 rfl) rfl 1 rfl rfl ?_
      refine j_dup_x1 (q := 61) hx (dc kJx35411_next_0502b_0 34 rfl) rfl (vR_cat _ _) rfl ?_
      refine w_sI (q := 64) hx (dc kJx35411_next_0502b_0 35 rfl) ff_Jx35411_1 rfl lk_Jx35411_13 (Or.inl rfl) rfl (fun h10 => ?_)
      refine j_ldR (t := 3) (q := 65) hx (dc kJx35411_next_0502b_0 36 rfl) rfl (by decide) rfl (fun v11 => ?_)
      exact r_aW hx (Or.inl ⟨_, rfl⟩) hR (dc kJx35411_next_0502b_0 37 rfl)
    · exact j_none
  · exact j_none

set_option maxHeartbeats 4000000 in
set_option maxRecDepth 100000 in
theorem sJx4a65c_grow_92f84 (l : Launch) (w : Wd) (x0 : Nat) (x1 : Int32) (h : Hp) (u : (Nat × Hp)) (hK : mJx4a65c_grow_92f84 x0 x1 h = some u) : M1 l w mi_Jx4a65c_grow_92f84 2 [vR w x0, .int x1] h u.2 (some (vR w u.1)) := by
  refine M1.of (own := RJx4a65c) (T := fun _ r => r = u) hK (by decide +kernel) rfl (by first | (simp only [lg_lenR, lg_lenI, lg_lenL, lg_len0]; decide) | decide) (fun x hx hnl hhf hl hw hret hnm hQ h0e => ⟨?_, rfl⟩)
  subst hw
  subst hl
  have hR : Rt x h u.2 (some (vR x.2.2.2 u.1)) ((some (.array (.object "java/lang/Object")))) := ⟨h0e, hhf, hret, hQ⟩
  have hn : ∀ i, i < 4 → i < x.2.2.1.1.1 := fun i hi => by rw [hnl]; exact hi
  have e0 : lv_args 0 [vR x.2.2.2 x0, .int x1] = [(0, vR x.2.2.2 x0), (1, .int x1)] := by simp only [lv_argsR, lv_argsI, lv_argsL, lv_args0]
  rw [e0]
  have hb20 : ∀ (x0 : Nat) (x1 : Int32) (x2 : Int32) (h : Hp), J x 20 [(0, vR x.2.2.2 x0), (1, .int x1), (2, .int x2)] [] h (mJx4a65c_grow_92f84_b20 x0 x1 x2 h) (fun r => r = u) := by
    intro x0 x1 x2 h
    unfold mJx4a65c_grow_92f84_b20
    refine j_iload_n (q := 21) hx (dc kJx4a65c_grow_92f84_0 10 rfl) rfl 2 rfl rfl ?_
    refine j_iload_n (q := 22) hx (dc kJx4a65c_grow_92f84_0 11 rfl) rfl 1 rfl rfl ?_
    refine j_iload_n (q := 23) hx (dc kJx4a65c_grow_92f84_0 12 rfl) rfl 2 rfl rfl ?_
    refine j_isub (q := 24) hx (dc kJx4a65c_grow_92f84_0 13 rfl) rfl ?_
    refine j_iload_n (q := 25) hx (dc kJx4a65c_grow_92f84_0 14 rfl) rfl 2 rfl rfl ?_
    refine j_iconst (q := 26) (v := (1 : Int32)) hx (dc kJx4a65c_grow_92f84_0 15 rfl) (by decide) rfl ?_
    refine j_ishr (q := 27) hx (dc kJx4a65c_grow_92f84_0 16 rfl) rfl ?_
    refine w_cSIR (q := 30) (As := [.int x2, .int (x1 - x2), .int (x2 >>> ((1 : Int32) &&& 31))]) (st := []) hx (dc kJx4a65c_grow_92f84_0 17 rfl) (cI _ my_J8_newLength_cabcc lm_Jx4a65c_73 (by decide)) st_J8_newLength_cabcc rfl (fun u hu => sJ8_newLength_cabcc _ _ _ _ _ _ _ hu) (Nat.zero_le _) rfl (fun v3 => ?_)
    refine j_istore_n (q := 31) (i := 3) (l2 := [(0, vR x.2.2.2 x0)]) hx (dc kJx4a65c_grow_92f84_0 18 rfl) rfl (hn 3 (by decide)) [0] rfl ⟨⟨show (0 : Nat) ≠ 3 by decide, Or.inl (show (0 : Nat) + 1 ≠ 3 by decide)⟩, trivial⟩ rfl ?_
    refine j_aload_n (q := 32) hx (dc kJx4a65c_grow_92f84_0 19 rfl) rfl 1 rfl rfl ?_
    refine j_aload_n (q := 33) hx (dc kJx4a65c_grow_92f84_0 20 rfl) rfl 1 rfl rfl ?_
    refine w_gR (q := 36) hx (dc kJx4a65c_grow_92f84_0 21 rfl) ff_Jx4a65c_1 lk_Jx4a65c_9 rfl (fun v5 => ?_)
    refine j_iload_n (q := 37) hx (dc kJx4a65c_grow_92f84_0 22 rfl) rfl 0 rfl rfl ?_
    exact j_none
  unfold mJx4a65c_grow_92f84
  refine J.ckd fun hck => ?_
  refine j_aload_n (q := 1) hx (dc kJx4a65c_grow_92f84_0 0 rfl) rfl 0 rfl rfl ?_
  refine w_gR (q := 4) hx (dc kJx4a65c_grow_92f84_0 1 rfl) ff_Jx4a65c_1 lk_Jx4a65c_9 rfl (fun v1 => ?_)
  refine j_oLn (q := 5) hx (dc kJx4a65c_grow_92f84_0 2 rfl) rfl (fun v2 => ?_)
  refine j_istore_n (q := 6) (i := 2) (l2 := [(0, vR x.2.2.2 x0), (1, .int x1)]) hx (dc kJx4a65c_grow_92f84_0 3 rfl) rfl (hn 2 (by decide)) [0, 1] rfl ⟨⟨show (0 : Nat) ≠ 2 by decide, Or.inl (show (0 : Nat) + 1 ≠ 2 by decide)⟩, ⟨⟨show (1 : Nat) ≠ 2 by decide, Or.inr rfl⟩, trivial⟩⟩ rfl ?_
  refine j_iload_n (q := 7) hx (dc kJx4a65c_grow_92f84_0 4 rfl) rfl 0 rfl rfl ?_
  refine j_if_gt (q := 10) (tgt := 20) hx (dc kJx4a65c_grow_92f84_0 5 rfl) (by decide) Iff.rfl rfl ?_ ?_
  · exact j_sub [1, 2, 0] rfl (hb20 x0 x1 v2 h)
  · refine j_aload_n (q := 11) hx (dc kJx4a65c_grow_92f84_0 6 rfl) rfl 1 rfl rfl ?_
    refine w_gR (q := 14) hx (dc kJx4a65c_grow_92f84_0 7 rfl) ff_Jx4a65c_1 lk_Jx4a65c_9 rfl (fun v6 => ?_)
    refine j_gs (a := 4) (q := 17) hx (dc kJx4a65c_grow_92f84_0 8 rfl) gs_Jx4a65c_39 gz_4 rfl ?_
    refine j_acmp4 (q := 20) (tgt := 45) hx (dc kJx4a65c_grow_92f84_0 9 rfl) (by decide) rfl ?_ ?_
    · refine j_aload_n (q := 46) hx (dc kJx4a65c_grow_92f84_0 27 rfl) rfl 1 rfl rfl ?_
      refine j_bipush (q := 48) (v := (10 : Int32)) hx (dc kJx4a65c_grow_92f84_0 28 rfl) (by decide) rfl ?_
      refine j_iload_n (q := 49) hx (dc kJx4a65c_grow_92f84_0 29 rfl) rfl 2 rfl rfl ?_
      refine w_mmax (q := 52) hx (dc kJx4a65c_grow_92f84_0 30 rfl) lm_Jx4a65c_79 ms_mmax ms_init mc_mmax (by decide) (sum_le (sum_R sum_nil) (by decide)) rfl ?_
      refine j_anewarrayV78 (q := 55) hx (dc kJx4a65c_grow_92f84_0 31 rfl) na_Jx4a65c_7 rfl (fun v8 hvv8 h7 => ?_)
      refine j_dup_x1 (q := 56) hx (dc kJx4a65c_grow_92f84_0 32 rfl) (vR_cat _ _) (vR_cat _ _) rfl ?_
      refine w_sR (q := 59) hx (dc kJx4a65c_grow_92f84_0 33 rfl) ff_Jx4a65c_1 lk_Jx4a65c_9 (Or.inl rfl) rfl (fun h9 => ?_)
      exact r_aW hx (Or.inr ⟨_, rfl⟩) hR (dc kJx4a65c_grow_92f84_0 34 rfl)
    · exact j_sub [1, 2, 0] rfl (hb20 x0 x1 v2 h)

set_option maxHeartbeats 4000000 in
set_option maxRecDepth 100000 in
theorem sJx4a65c_grow_d5877 (l : Launch) (w : Wd) (x0 : Nat) (h : Hp) (u : (Nat × Hp)) (hK : mJx4a65c_grow_d5877 x0 h = some u) : M1 l w mi_Jx4a65c_grow_d5877 3 [vR w x0] h u.2 (some (vR w u.1)) := by
  refine M1.of (own := RJx4a65c) (T := fun _ r => r = u) hK (by decide +kernel) rfl (by first | (simp only [lg_lenR, lg_lenI, lg_lenL, lg_len0]; decide) | decide) (fun x hx hnl hhf hl hw hret hnm hQ h0e => ⟨?_, rfl⟩)
  subst hw
  subst hl
  have hR : Rt x h u.2 (some (vR x.2.2.2 u.1)) ((some (.array (.object "java/lang/Object")))) := ⟨h0e, hhf, hret, hQ⟩
  have hn : ∀ i, i < 1 → i < x.2.2.1.1.1 := fun i hi => by rw [hnl]; exact hi
  have e0 : lv_args 0 [vR x.2.2.2 x0] = [(0, vR x.2.2.2 x0)] := by simp only [lv_argsR, lv_argsI, lv_argsL, lv_args0]
  rw [e0]
  unfold mJx4a65c_grow_d5877
  refine J.ckd fun hck => ?_
  refine j_aload_n (q := 1) hx (dc kJx4a65c_grow_d5877_0 0 rfl) rfl 0 rfl rfl ?_
  refine j_aload_n (q := 2) hx (dc kJx4a65c_grow_d5877_0 1 rfl) rfl 0 rfl rfl ?_
  refine w_gI (q := 5) hx (dc kJx4a65c_grow_d5877_0 2 rfl) ff_Jx4a65c_2 lk_Jx4a65c_48 rfl (fun v1 => ?_)
  refine j_iconst (q := 6) (v := (1 : Int32)) hx (dc kJx4a65c_grow_d5877_0 3 rfl) (by decide) rfl ?_
  refine j_iadd (q := 7) hx (dc kJx4a65c_grow_d5877_0 4 rfl) rfl ?_
  refine w_cVRW (q := 10) (As := [.int (v1 + (1 : Int32))]) (st := []) hx (dc kJx4a65c_grow_d5877_0 5 rfl) cf18 (by decide) rfl (cI _ my_Jx4a65c_grow_92f84 lm_Jx4a65c_69 (by decide)) vs_Jx4a65c_grow_92f84 rfl (fun u hu => sJx4a65c_grow_92f84 _ _ _ _ _ _ hu) (fun e => ite_ne (by unfold mJx4a65c_grow_92f84 at e; exact e)) (Nat.zero_le _) rfl (fun v2 h3 => ?_)
  exact r_aW hx (Or.inr ⟨_, rfl⟩) hR (dc kJx4a65c_grow_d5877_0 6 rfl)

set_option maxHeartbeats 4000000 in
set_option maxRecDepth 100000 in
theorem sJx4a65c_size_8abf5 (l : Launch) (w : Wd) (x0 : Nat) (h : Hp) (u : Int32) (hK : mJx4a65c_size_8abf5 x0 h = some u) : M1 l w mi_Jx4a65c_size_8abf5 1 [vR w x0] h h (some (.int u)) := by
  refine M1.of (own := RJx4a65c) (T := fun _ r => r = u) hK (by decide +kernel) rfl (by first | (simp only [lg_lenR, lg_lenI, lg_lenL, lg_len0]; decide) | decide) (fun x hx hnl hhf hl hw hret hnm hQ h0e => ⟨?_, rfl⟩)
  subst hw
  subst hl
  have hR : Rt x h h (some (.int u)) ((some .int)) := ⟨h0e, hhf, hret, hQ⟩
  have hn : ∀ i, i < 1 → i < x.2.2.1.1.1 := fun i hi => by rw [hnl]; exact hi
  have e0 : lv_args 0 [vR x.2.2.2 x0] = [(0, vR x.2.2.2 x0)] := by simp only [lv_argsR, lv_argsI, lv_argsL, lv_args0]
  rw [e0]
  unfold mJx4a65c_size_8abf5
  refine J.ckd fun hck => ?_
  refine j_aload_n (q := 1) hx (dc kJx4a65c_size_8abf5_0 0 rfl) rfl 0 rfl rfl ?_
  refine w_gI (q := 4) hx (dc kJx4a65c_size_8abf5_0 1 rfl) ff_Jx4a65c_2 lk_Jx4a65c_48 rfl (fun v1 => ?_)
  exact r_iR hx hR (dc kJx4a65c_size_8abf5_0 2 rfl)

set_option maxHeartbeats 4000000 in
set_option maxRecDepth 100000 in
theorem sJx4a65c_elementData_915e3 (l : Launch) (w : Wd) (x0 : Nat) (x1 : Int32) (h : Hp) (u : Nat) (hK : mJx4a65c_elementData_915e3 x0 x1 h = some u) : M1 l w mi_Jx4a65c_elementData_915e3 1 [vR w x0, .int x1] h h (some (vR w u)) := by
  refine M1.of (own := RJx4a65c) (T := fun _ r => r = u) hK (by decide +kernel) rfl (by first | (simp only [lg_lenR, lg_lenI, lg_lenL, lg_len0]; decide) | decide) (fun x hx hnl hhf hl hw hret hnm hQ h0e => ⟨?_, rfl⟩)
  subst hw
  subst hl
  have hR : Rt x h h (some (vR x.2.2.2 u)) ((some (.object "java/lang/Object"))) := ⟨h0e, hhf, hret, hQ⟩
  have hn : ∀ i, i < 2 → i < x.2.2.1.1.1 := fun i hi => by rw [hnl]; exact hi
  have e0 : lv_args 0 [vR x.2.2.2 x0, .int x1] = [(0, vR x.2.2.2 x0), (1, .int x1)] := by simp only [lv_argsR, lv_argsI, lv_argsL, lv_args0]
  rw [e0]
  unfold mJx4a65c_elementData_915e3
  refine J.ckd fun hck => ?_
  refine j_aload_n (q := 1) hx (dc kJx4a65c_elementData_915e3_0 0 rfl) rfl 0 rfl rfl ?_
  refine w_gR (q := 4) hx (dc kJx4a65c_elementData_915e3_0 1 rfl) ff_Jx4a65c_1 lk_Jx4a65c_9 rfl (fun v1 => ?_)
  refine j_iload_n (q := 5) hx (dc kJx4a65c_elementData_915e3_0 2 rfl) rfl 1 rfl rfl ?_
  refine j_ldR (t := 3) (q := 6) hx (dc kJx4a65c_elementData_915e3_0 3 rfl) rfl (by decide) rfl (fun v2 => ?_)
  exact r_aR hx (Or.inl ⟨_, rfl⟩) hR (dc kJx4a65c_elementData_915e3_0 4 rfl)

set_option maxHeartbeats 4000000 in
set_option maxRecDepth 100000 in
theorem sJ15_checkIndex_7cf53 (l : Launch) (w : Wd) (x0 : Int32) (x1 : Int32) (h : Hp) (u : Int32) (hK : mJ15_checkIndex_7cf53 x0 x1 = some u) : M1 l w mi_J15_checkIndex_7cf53 2 [.int x0, .int x1] h h (some (.int u)) := by
  refine M1.of (own := RJ15) (T := fun _ r => r = u) hK (by decide +kernel) rfl (by first | (simp only [lg_lenR, lg_lenI, lg_lenL, lg_len0]; decide) | decide) (fun x hx hnl hhf hl hw hret hnm hQ h0e => ⟨?_, rfl⟩)
  subst hw
  subst hl
  have hR : Rt x h h (some (.int u)) ((some .int)) := ⟨h0e, hhf, hret, hQ⟩
  have hn : ∀ i, i < 2 → i < x.2.2.1.1.1 := fun i hi => by rw [hnl]; exact hi
  have e0 : lv_args 0 [.int x0, .int x1] = [(0, .int x0), (1, .int x1)] := by simp only [lv_argsR, lv_argsI, lv_argsL, lv_args0]
  rw [e0]
  unfold mJ15_checkIndex_7cf53
  refine j_iload_n (q := 1) hx (dc kJ15_checkIndex_7cf53_0 0 rfl) rfl 0 rfl rfl ?_
  refine j_iload_n (q := 2) hx (dc kJ15_checkIndex_7cf53_0 1 rfl) rfl 1 rfl rfl ?_
  refine j_null (q := 3) hx (dc kJ15_checkIndex_7cf53_0 2 rfl) rfl ?_
  refine w_cSIR (q := 6) (As := [.int x0, .int x1, vR x.2.2.2 0]) (st := []) hx (dc kJ15_checkIndex_7cf53_0 3 rfl) (cI _ my_J3_checkIndex_8e157 lm_J15_105 (by decide)) st_J3_checkIndex_8e157 rfl (fun u hu => sJ3_checkIndex_8e157 _ _ _ _ _ _ _ hu) (Nat.zero_le _) rfl (fun v1 => ?_)
  exact r_iR hx hR (dc kJ15_checkIndex_7cf53_0 4 rfl)

set_option maxHeartbeats 4000000 in
set_option maxRecDepth 100000 in
theorem sJx4a65c_get_915e3 (l : Launch) (w : Wd) (x0 : Nat) (x1 : Int32) (h : Hp) (u : Nat) (hK : mJx4a65c_get_915e3 x0 x1 h = some u) : M1 l w mi_Jx4a65c_get_915e3 3 [vR w x0, .int x1] h h (some (vR w u)) := by
  refine M1.of (own := RJx4a65c) (T := fun _ r => r = u) hK (by decide +kernel) rfl (by first | (simp only [lg_lenR, lg_lenI, lg_lenL, lg_len0]; decide) | decide) (fun x hx hnl hhf hl hw hret hnm hQ h0e => ⟨?_, rfl⟩)
  subst hw
  subst hl
  have hR : Rt x h h (some (vR x.2.2.2 u)) ((some (.object "java/lang/Object"))) := ⟨h0e, hhf, hret, hQ⟩
  have hn : ∀ i, i < 2 → i < x.2.2.1.1.1 := fun i hi => by rw [hnl]; exact hi
  have e0 : lv_args 0 [vR x.2.2.2 x0, .int x1] = [(0, vR x.2.2.2 x0), (1, .int x1)] := by simp only [lv_argsR, lv_argsI, lv_argsL, lv_args0]
  rw [e0]
  unfold mJx4a65c_get_915e3
  refine J.ckd fun hck => ?_
  refine j_iload_n (q := 1) hx (dc kJx4a65c_get_915e3_0 0 rfl) rfl 1 rfl rfl ?_
  refine j_aload_n (q := 2) hx (dc kJx4a65c_get_915e3_0 1 rfl) rfl 0 rfl rfl ?_
  refine w_gI (q := 5) hx (dc kJx4a65c_get_915e3_0 2 rfl) ff_Jx4a65c_2 lk_Jx4a65c_48 rfl (fun v1 => ?_)
  refine w_cSIR (q := 8) (As := [.int x1, .int v1]) (st := []) hx (dc kJx4a65c_get_915e3_0 3 rfl) (cI _ my_J15_checkIndex_7cf53 lm_Jx4a65c_118 (by decide)) st_J15_checkIndex_7cf53 rfl (fun u hu => sJ15_checkIndex_7cf53 _ _ _ _ _ _ hu) (Nat.zero_le _) rfl (fun v2 => ?_)
  refine j_pop (q := 9) hx (dc kJx4a65c_get_915e3_0 4 rfl) rfl rfl ?_
  refine j_aload_n (q := 10) hx (dc kJx4a65c_get_915e3_0 5 rfl) rfl 0 rfl rfl ?_
  refine j_iload_n (q := 11) hx (dc kJx4a65c_get_915e3_0 6 rfl) rfl 1 rfl rfl ?_
  refine w_cVRR (q := 14) (As := [.int x1]) (st := []) hx (dc kJx4a65c_get_915e3_0 7 rfl) cf18 (by decide) rfl (cI _ my_Jx4a65c_elementData_915e3 lm_Jx4a65c_123 (by decide)) vs_Jx4a65c_elementData_915e3 rfl (fun u hu => sJx4a65c_elementData_915e3 _ _ _ _ _ _ hu) (fun e => ite_ne (by unfold mJx4a65c_elementData_915e3 at e; exact e)) (Nat.zero_le _) rfl (fun v4 => ?_)
  exact r_aR hx (Or.inl ⟨_, rfl⟩) hR (dc kJx4a65c_get_915e3_0 8 rfl)

set_option maxHeartbeats 4000000 in
set_option maxRecDepth 100000 in
theorem sJx4a65c_add_72be8 (l : Launch) (w : Wd) (x0 : Nat) (x1 : Nat) (x2 : Nat) (x3 : Int32) (h : Hp) (u : Hp) (hK : mJx4a65c_add_72be8 x0 x1 x2 x3 h = some u) : M1 l w mi_Jx4a65c_add_72be8 4 [vR w x0, vR w x1, vR w x2, .int x3] h u (none) := by
  refine M1.of (own := RJx4a65c) (T := fun _ r => r = u) hK (by decide +kernel) rfl (by first | (simp only [lg_lenR, lg_lenI, lg_lenL, lg_len0]; decide) | decide) (fun x hx hnl hhf hl hw hret hnm hQ h0e => ⟨?_, rfl⟩)
  subst hw
  subst hl
  have hR : Rt x h u (none) (none) := ⟨h0e, hhf, hret, hQ⟩
  have hn : ∀ i, i < 4 → i < x.2.2.1.1.1 := fun i hi => by rw [hnl]; exact hi
  have e0 : lv_args 0 [vR x.2.2.2 x0, vR x.2.2.2 x1, vR x.2.2.2 x2, .int x3] = [(0, vR x.2.2.2 x0), (1, vR x.2.2.2 x1), (2, vR x.2.2.2 x2), (3, .int x3)] := by simp only [lv_argsR, lv_argsI, lv_argsL, lv_args0]
  rw [e0]
  have hb11 : ∀ (x0 : Nat) (x1 : Nat) (x2 : Nat) (x3 : Int32) (h : Hp), J x 11 [(0, vR x.2.2.2 x0), (1, vR x.2.2.2 x1), (2, vR x.2.2.2 x2), (3, .int x3)] [] h (mJx4a65c_add_72be8_b11 x0 x1 x2 x3 h) (fun r => r = u) := by
    intro x0 x1 x2 x3 h
    unfold mJx4a65c_add_72be8_b11
    refine j_aload_n (q := 12) hx (dc kJx4a65c_add_72be8_0 7 rfl) rfl 2 rfl rfl ?_
    refine j_iload_n (q := 13) hx (dc kJx4a65c_add_72be8_0 8 rfl) rfl 3 rfl rfl ?_
    refine j_aload_n (q := 14) hx (dc kJx4a65c_add_72be8_0 9 rfl) rfl 1 rfl rfl ?_
    refine w_stO (q := 15) hx (dc kJx4a65c_add_72be8_0 10 rfl) rfl (fun h2 => ?_)
    refine j_aload_n (q := 16) hx (dc kJx4a65c_add_72be8_0 11 rfl) rfl 0 rfl rfl ?_
    refine j_iload_n (q := 17) hx (dc kJx4a65c_add_72be8_0 12 rfl) rfl 3 rfl rfl ?_
    refine j_iconst (q := 18) (v := (1 : Int32)) hx (dc kJx4a65c_add_72be8_0 13 rfl) (by decide) rfl ?_
    refine j_iadd (q := 19) hx (dc kJx4a65c_add_72be8_0 14 rfl) rfl ?_
    refine w_sI (q := 22) hx (dc kJx4a65c_add_72be8_0 15 rfl) ff_Jx4a65c_2 rfl lk_Jx4a65c_48 (Or.inl rfl) rfl (fun h3 => ?_)
    exact r_vW hx hR (dc kJx4a65c_add_72be8_0 16 rfl)
  unfold mJx4a65c_add_72be8
  refine J.ckd fun hck => ?_
  refine j_iload_n (q := 1) hx (dc kJx4a65c_add_72be8_0 0 rfl) rfl 3 rfl rfl ?_
  refine j_aload_n (q := 2) hx (dc kJx4a65c_add_72be8_0 1 rfl) rfl 2 rfl rfl ?_
  refine j_oLn (q := 3) hx (dc kJx4a65c_add_72be8_0 2 rfl) rfl (fun v1 => ?_)
  refine j_icmp_neS (q := 6) (tgt := 11) hx (dc kJx4a65c_add_72be8_0 3 rfl) (by decide) rfl ?_ ?_
  · exact hb11 x0 x1 x2 x3 h
  · refine j_aload_n (q := 7) hx (dc kJx4a65c_add_72be8_0 4 rfl) rfl 0 rfl rfl ?_
    refine w_cVRW (q := 10) (As := []) (st := []) hx (dc kJx4a65c_add_72be8_0 5 rfl) cf18 (by decide) rfl (cI _ my_Jx4a65c_grow_d5877 lm_Jx4a65c_129 (by decide)) vs_Jx4a65c_grow_d5877 rfl (fun u hu => sJx4a65c_grow_d5877 _ _ _ _ _ hu) (fun e => ite_ne (by unfold mJx4a65c_grow_d5877 at e; exact e)) (Nat.zero_le _) rfl (fun v4 h5 => ?_)
    refine j_astore_n (q := 11) (i := 2) (l2 := [(0, vR x.2.2.2 x0), (1, vR x.2.2.2 x1), (3, .int x3)]) hx (dc kJx4a65c_add_72be8_0 6 rfl) rfl (hn 2 (by decide)) [0, 1, 3] rfl ⟨⟨show (0 : Nat) ≠ 2 by decide, Or.inl (show (0 : Nat) + 1 ≠ 2 by decide)⟩, ⟨⟨show (1 : Nat) ≠ 2 by decide, Or.inr (vR_cat _ _)⟩, ⟨⟨show (3 : Nat) ≠ 2 by decide, Or.inl (show (3 : Nat) + 1 ≠ 2 by decide)⟩, trivial⟩⟩⟩ rfl ?_
    exact j_sub [1, 2, 0, 3] rfl (hb11 x0 x1 v4 x3 h5)

set_option maxHeartbeats 4000000 in
set_option maxRecDepth 100000 in
theorem sJx4a65c_add_9ea2d (l : Launch) (w : Wd) (x0 : Nat) (x1 : Nat) (h : Hp) (u : (Int32 × Hp)) (hK : mJx4a65c_add_9ea2d x0 x1 h = some u) : M1 l w mi_Jx4a65c_add_9ea2d 5 [vR w x0, vR w x1] h u.2 (some (.int u.1)) := by
  refine M1.of (own := RJx4a65c) (T := fun _ r => r = u) hK (by decide +kernel) rfl (by first | (simp only [lg_lenR, lg_lenI, lg_lenL, lg_len0]; decide) | decide) (fun x hx hnl hhf hl hw hret hnm hQ h0e => ⟨?_, rfl⟩)
  subst hw
  subst hl
  have hR : Rt x h u.2 (some (.int u.1)) ((some .boolean)) := ⟨h0e, hhf, hret, hQ⟩
  have hn : ∀ i, i < 2 → i < x.2.2.1.1.1 := fun i hi => by rw [hnl]; exact hi
  have e0 : lv_args 0 [vR x.2.2.2 x0, vR x.2.2.2 x1] = [(0, vR x.2.2.2 x0), (1, vR x.2.2.2 x1)] := by simp only [lv_argsR, lv_argsI, lv_argsL, lv_args0]
  rw [e0]
  unfold mJx4a65c_add_9ea2d
  refine J.ckd fun hck => ?_
  refine j_aload_n (q := 1) hx (dc kJx4a65c_add_9ea2d_0 0 rfl) rfl 0 rfl rfl ?_
  refine j_dup (q := 2) hx (dc kJx4a65c_add_9ea2d_0 1 rfl) (vR_cat _ _) rfl ?_
  refine w_gI (q := 5) hx (dc kJx4a65c_add_9ea2d_0 2 rfl) ff_Jx4a65c_0 lk_Jx4a65c_63 rfl (fun v1 => ?_)
  refine j_iconst (q := 6) (v := (1 : Int32)) hx (dc kJx4a65c_add_9ea2d_0 3 rfl) (by decide) rfl ?_
  refine j_iadd (q := 7) hx (dc kJx4a65c_add_9ea2d_0 4 rfl) rfl ?_
  refine w_sI (q := 10) hx (dc kJx4a65c_add_9ea2d_0 5 rfl) ff_Jx4a65c_0 rfl lk_Jx4a65c_63 (Or.inl rfl) rfl (fun h2 => ?_)
  refine j_aload_n (q := 11) hx (dc kJx4a65c_add_9ea2d_0 6 rfl) rfl 0 rfl rfl ?_
  refine j_aload_n (q := 12) hx (dc kJx4a65c_add_9ea2d_0 7 rfl) rfl 1 rfl rfl ?_
  refine j_aload_n (q := 13) hx (dc kJx4a65c_add_9ea2d_0 8 rfl) rfl 0 rfl rfl ?_
  refine w_gR (q := 16) hx (dc kJx4a65c_add_9ea2d_0 9 rfl) ff_Jx4a65c_1 lk_Jx4a65c_9 rfl (fun v3 => ?_)
  refine j_aload_n (q := 17) hx (dc kJx4a65c_add_9ea2d_0 10 rfl) rfl 0 rfl rfl ?_
  refine w_gI (q := 20) hx (dc kJx4a65c_add_9ea2d_0 11 rfl) ff_Jx4a65c_2 lk_Jx4a65c_48 rfl (fun v4 => ?_)
  refine w_cVVW (q := 23) (As := [vR x.2.2.2 x1, vR x.2.2.2 v3, .int v4]) (st := []) hx (dc kJx4a65c_add_9ea2d_0 12 rfl) cf18 (by decide) rfl (cI _ my_Jx4a65c_add_72be8 lm_Jx4a65c_131 (by decide)) vs_Jx4a65c_add_72be8 rfl (fun u hu => sJx4a65c_add_72be8 _ _ _ _ _ _ _ _ hu) (fun e => ite_ne (by unfold mJx4a65c_add_72be8 at e; exact e)) (Nat.zero_le _) rfl (fun h6 => ?_)
  refine j_iconst (q := 24) (v := (1 : Int32)) hx (dc kJx4a65c_add_9ea2d_0 13 rfl) (by decide) rfl ?_
  exact r_cW hx (Or.inr rfl) hR (dc kJx4a65c_add_9ea2d_0 14 rfl)

set_option maxHeartbeats 4000000 in
set_option maxRecDepth 100000 in
theorem sJx4a65c_fastRemove_b59b0 (l : Launch) (w : Wd) (x0 : Nat) (x1 : Nat) (x2 : Int32) (h : Hp) (u : Hp) (hK : mJx4a65c_fastRemove_b59b0 x0 x1 x2 h = some u) : M1 l w mi_Jx4a65c_fastRemove_b59b0 1 [vR w x0, vR w x1, .int x2] h u (none) := by
  refine M1.of (own := RJx4a65c) (T := fun _ r => r = u) hK (by decide +kernel) rfl (by first | (simp only [lg_lenR, lg_lenI, lg_lenL, lg_len0]; decide) | decide) (fun x hx hnl hhf hl hw hret hnm hQ h0e => ⟨?_, rfl⟩)
  subst hw
  subst hl
  have hR : Rt x h u (none) (none) := ⟨h0e, hhf, hret, hQ⟩
  have hn : ∀ i, i < 4 → i < x.2.2.1.1.1 := fun i hi => by rw [hnl]; exact hi
  have e0 : lv_args 0 [vR x.2.2.2 x0, vR x.2.2.2 x1, .int x2] = [(0, vR x.2.2.2 x0), (1, vR x.2.2.2 x1), (2, .int x2)] := by simp only [lv_argsR, lv_argsI, lv_argsL, lv_args0]
  rw [e0]
  unfold mJx4a65c_fastRemove_b59b0
  refine J.ckd fun hck => ?_
  refine j_aload_n (q := 1) hx (dc kJx4a65c_fastRemove_b59b0_0 0 rfl) rfl 0 rfl rfl ?_
  refine j_dup (q := 2) hx (dc kJx4a65c_fastRemove_b59b0_0 1 rfl) (vR_cat _ _) rfl ?_
  refine w_gI (q := 5) hx (dc kJx4a65c_fastRemove_b59b0_0 2 rfl) ff_Jx4a65c_0 lk_Jx4a65c_63 rfl (fun v1 => ?_)
  refine j_iconst (q := 6) (v := (1 : Int32)) hx (dc kJx4a65c_fastRemove_b59b0_0 3 rfl) (by decide) rfl ?_
  refine j_iadd (q := 7) hx (dc kJx4a65c_fastRemove_b59b0_0 4 rfl) rfl ?_
  refine w_sI (q := 10) hx (dc kJx4a65c_fastRemove_b59b0_0 5 rfl) ff_Jx4a65c_0 rfl lk_Jx4a65c_63 (Or.inl rfl) rfl (fun h2 => ?_)
  refine j_aload_n (q := 11) hx (dc kJx4a65c_fastRemove_b59b0_0 6 rfl) rfl 0 rfl rfl ?_
  refine w_gI (q := 14) hx (dc kJx4a65c_fastRemove_b59b0_0 7 rfl) ff_Jx4a65c_2 lk_Jx4a65c_48 rfl (fun v3 => ?_)
  refine j_iconst (q := 15) (v := (1 : Int32)) hx (dc kJx4a65c_fastRemove_b59b0_0 8 rfl) (by decide) rfl ?_
  refine j_isub (q := 16) hx (dc kJx4a65c_fastRemove_b59b0_0 9 rfl) rfl ?_
  refine j_dup (q := 17) hx (dc kJx4a65c_fastRemove_b59b0_0 10 rfl) rfl rfl ?_
  refine j_istore_n (q := 18) (i := 3) (l2 := [(0, vR x.2.2.2 x0), (1, vR x.2.2.2 x1), (2, .int x2)]) hx (dc kJx4a65c_fastRemove_b59b0_0 11 rfl) rfl (hn 3 (by decide)) [0, 1, 2] rfl ⟨⟨show (0 : Nat) ≠ 3 by decide, Or.inl (show (0 : Nat) + 1 ≠ 3 by decide)⟩, ⟨⟨show (1 : Nat) ≠ 3 by decide, Or.inl (show (1 : Nat) + 1 ≠ 3 by decide)⟩, ⟨⟨show (2 : Nat) ≠ 3 by decide, Or.inr rfl⟩, trivial⟩⟩⟩ rfl ?_
  refine j_iload_n (q := 19) hx (dc kJx4a65c_fastRemove_b59b0_0 12 rfl) rfl 3 rfl rfl ?_
  refine j_icmp_leS (q := 22) (tgt := 34) hx (dc kJx4a65c_fastRemove_b59b0_0 13 rfl) (by decide) rfl ?_ ?_
  · refine j_aload_n (q := 35) hx (dc kJx4a65c_fastRemove_b59b0_0 24 rfl) rfl 2 rfl rfl ?_
    refine j_aload_n (q := 36) hx (dc kJx4a65c_fastRemove_b59b0_0 25 rfl) rfl 1 rfl rfl ?_
    refine j_iload_n (q := 37) hx (dc kJx4a65c_fastRemove_b59b0_0 26 rfl) rfl 0 rfl rfl ?_
    refine j_dup_x1 (q := 38) hx (dc kJx4a65c_fastRemove_b59b0_0 27 rfl) rfl (vR_cat _ _) rfl ?_
    refine w_sI (q := 41) hx (dc kJx4a65c_fastRemove_b59b0_0 28 rfl) ff_Jx4a65c_2 rfl lk_Jx4a65c_48 (Or.inl rfl) rfl (fun h4 => ?_)
    refine j_null (q := 42) hx (dc kJx4a65c_fastRemove_b59b0_0 29 rfl) rfl ?_
    refine w_stN (t := 3) (q := 43) hx (dc kJx4a65c_fastRemove_b59b0_0 30 rfl) rfl (by decide) rfl (fun h5 => ?_)
    exact r_vW hx hR (dc kJx4a65c_fastRemove_b59b0_0 31 rfl)
  · refine j_aload_n (q := 23) hx (dc kJx4a65c_fastRemove_b59b0_0 14 rfl) rfl 2 rfl rfl ?_
    refine j_iload_n (q := 24) hx (dc kJx4a65c_fastRemove_b59b0_0 15 rfl) rfl 3 rfl rfl ?_
    refine j_iconst (q := 25) (v := (1 : Int32)) hx (dc kJx4a65c_fastRemove_b59b0_0 16 rfl) (by decide) rfl ?_
    refine j_iadd (q := 26) hx (dc kJx4a65c_fastRemove_b59b0_0 17 rfl) rfl ?_
    refine j_aload_n (q := 27) hx (dc kJx4a65c_fastRemove_b59b0_0 18 rfl) rfl 2 rfl rfl ?_
    refine j_iload_n (q := 28) hx (dc kJx4a65c_fastRemove_b59b0_0 19 rfl) rfl 3 rfl rfl ?_
    refine j_iload_n (q := 29) hx (dc kJx4a65c_fastRemove_b59b0_0 20 rfl) rfl 0 rfl rfl ?_
    refine j_iload_n (q := 30) hx (dc kJx4a65c_fastRemove_b59b0_0 21 rfl) rfl 3 rfl rfl ?_
    refine j_isub (q := 31) hx (dc kJx4a65c_fastRemove_b59b0_0 22 rfl) rfl ?_
    exact j_none

set_option maxHeartbeats 4000000 in
set_option maxRecDepth 100000 in
theorem sJx4a65c_remove_915e3 (l : Launch) (w : Wd) (x0 : Nat) (x1 : Int32) (h : Hp) (u : (Nat × Hp)) (hK : mJx4a65c_remove_915e3 x0 x1 h = some u) : M1 l w mi_Jx4a65c_remove_915e3 3 [vR w x0, .int x1] h u.2 (some (vR w u.1)) := by
  refine M1.of (own := RJx4a65c) (T := fun _ r => r = u) hK (by decide +kernel) rfl (by first | (simp only [lg_lenR, lg_lenI, lg_lenL, lg_len0]; decide) | decide) (fun x hx hnl hhf hl hw hret hnm hQ h0e => ⟨?_, rfl⟩)
  subst hw
  subst hl
  have hR : Rt x h u.2 (some (vR x.2.2.2 u.1)) ((some (.object "java/lang/Object"))) := ⟨h0e, hhf, hret, hQ⟩
  have hn : ∀ i, i < 4 → i < x.2.2.1.1.1 := fun i hi => by rw [hnl]; exact hi
  have e0 : lv_args 0 [vR x.2.2.2 x0, .int x1] = [(0, vR x.2.2.2 x0), (1, .int x1)] := by simp only [lv_argsR, lv_argsI, lv_argsL, lv_args0]
  rw [e0]
  unfold mJx4a65c_remove_915e3
  refine J.ckd fun hck => ?_
  refine j_iload_n (q := 1) hx (dc kJx4a65c_remove_915e3_0 0 rfl) rfl 1 rfl rfl ?_
  refine j_aload_n (q := 2) hx (dc kJx4a65c_remove_915e3_0 1 rfl) rfl 0 rfl rfl ?_
  refine w_gI (q := 5) hx (dc kJx4a65c_remove_915e3_0 2 rfl) ff_Jx4a65c_2 lk_Jx4a65c_48 rfl (fun v1 => ?_)
  refine w_cSIR (q := 8) (As := [.int x1, .int v1]) (st := []) hx (dc kJx4a65c_remove_915e3_0 3 rfl) (cI _ my_J15_checkIndex_7cf53 lm_Jx4a65c_118 (by decide)) st_J15_checkIndex_7cf53 rfl (fun u hu => sJ15_checkIndex_7cf53 _ _ _ _ _ _ hu) (Nat.zero_le _) rfl (fun v2 => ?_)
  refine j_pop (q := 9) hx (dc kJx4a65c_remove_915e3_0 4 rfl) rfl rfl ?_
  refine j_aload_n (q := 10) hx (dc kJx4a65c_remove_915e3_0 5 rfl) rfl 0 rfl rfl ?_
  refine w_gR (q := 13) hx (dc kJx4a65c_remove_915e3_0 6 rfl) ff_Jx4a65c_1 lk_Jx4a65c_9 rfl (fun v4 => ?_)
  refine j_astore_n (q := 14) (i := 2) (l2 := [(0, vR x.2.2.2 x0), (1, .int x1)]) hx (dc kJx4a65c_remove_915e3_0 7 rfl) rfl (hn 2 (by decide)) [0, 1] rfl ⟨⟨show (0 : Nat) ≠ 2 by decide, Or.inl (show (0 : Nat) + 1 ≠ 2 by decide)⟩, ⟨⟨show (1 : Nat) ≠ 2 by decide, Or.inr rfl⟩, trivial⟩⟩ rfl ?_
  refine j_aload_n (q := 15) hx (dc kJx4a65c_remove_915e3_0 8 rfl) rfl 0 rfl rfl ?_
  refine j_iload_n (q := 16) hx (dc kJx4a65c_remove_915e3_0 9 rfl) rfl 2 rfl rfl ?_
  refine j_ldR (t := 3) (q := 17) hx (dc kJx4a65c_remove_915e3_0 10 rfl) rfl (by decide) rfl (fun v5 => ?_)
  refine j_astore_n (q := 18) (i := 3) (l2 := [(2, vR x.2.2.2 v4), (0, vR x.2.2.2 x0), (1, .int x1)]) hx (dc kJx4a65c_remove_915e3_0 11 rfl) rfl (hn 3 (by decide)) [0, 1, 2] rfl ⟨⟨show (2 : Nat) ≠ 3 by decide, Or.inr (vR_cat _ _)⟩, ⟨⟨show (0 : Nat) ≠ 3 by decide, Or.inl (show (0 : Nat) + 1 ≠ 3 by decide)⟩, ⟨⟨show (1 : Nat) ≠ 3 by decide, Or.inl (show (1 : Nat) + 1 ≠ 3 by decide)⟩, trivial⟩⟩⟩ rfl ?_
  refine j_aload_n (q := 19) hx (dc kJx4a65c_remove_915e3_0 12 rfl) rfl 2 rfl rfl ?_
  refine j_aload_n (q := 20) hx (dc kJx4a65c_remove_915e3_0 13 rfl) rfl 1 rfl rfl ?_
  refine j_iload_n (q := 21) hx (dc kJx4a65c_remove_915e3_0 14 rfl) rfl 3 rfl rfl ?_
  refine w_cVVW (q := 24) (As := [vR x.2.2.2 v4, .int x1]) (st := []) hx (dc kJx4a65c_remove_915e3_0 15 rfl) cf18 (by decide) rfl (cI _ my_Jx4a65c_fastRemove_b59b0 lm_Jx4a65c_144 (by decide)) vs_Jx4a65c_fastRemove_b59b0 rfl (fun u hu => sJx4a65c_fastRemove_b59b0 _ _ _ _ _ _ _ hu) (fun e => ite_ne (by unfold mJx4a65c_fastRemove_b59b0 at e; exact e)) (Nat.zero_le _) rfl (fun h7 => ?_)
  refine j_aload_n (q := 25) hx (dc kJx4a65c_remove_915e3_0 16 rfl) rfl 0 rfl rfl ?_
  exact r_aW hx (Or.inl ⟨_, rfl⟩) hR (dc kJx4a65c_remove_915e3_0 17 rfl)

set_option maxHeartbeats 4000000 in
set_option maxRecDepth 100000 in
theorem sJx4a65c_clear_da8c8 (l : Launch) (w : Wd) (x0 : Nat) (h : Hp) (u : Hp) (hK : mJx4a65c_clear_da8c8 x0 h = some u) : M1 l w mi_Jx4a65c_clear_da8c8 1 [vR w x0] h u (none) := by
  refine M1.of (own := RJx4a65c) (T := fun _ r => r = u) hK (by decide +kernel) rfl (by first | (simp only [lg_lenR, lg_lenI, lg_lenL, lg_len0]; decide) | decide) (fun x hx hnl hhf hl hw hret hnm hQ h0e => ⟨?_, rfl⟩)
  subst hw
  subst hl
  have hR : Rt x h u (none) (none) := ⟨h0e, hhf, hret, hQ⟩
  have hn : ∀ i, i < 4 → i < x.2.2.1.1.1 := fun i hi => by rw [hnl]; exact hi
  have e0 : lv_args 0 [vR x.2.2.2 x0] = [(0, vR x.2.2.2 x0)] := by simp only [lv_argsR, lv_argsI, lv_argsL, lv_args0]
  rw [e0]
  have hb27 : ∀ (x1 : Nat) (x2 : Int32) (x3 : Int32) (h : Hp), J x 27 [(1, vR x.2.2.2 x1), (2, .int x2), (3, .int x3)] [] h (mJx4a65c_clear_da8c8_l27 x1 x2 x3 h) (fun r => r = u) := by
    intro x1 x2 x3 h
    have hB : ∀ (x3 : Int32) (h : Hp), J x 27 [(1, vR x.2.2.2 x1), (2, .int x2), (3, .int x3)] [] h (mJx4a65c_clear_da8c8_l27f x1 x2 x3 h) (TLo (S := (Int32 × Hp)) x 27 (fun s => [(1, vR x.2.2.2 x1), (2, .int x2), (3, .int s.1)]) [] (fun s => s.2) (fun r => r = u)) := by
      intro x3 h
      unfold mJx4a65c_clear_da8c8_l27f
      refine j_iload_n (q := 28) hx (dc kJx4a65c_clear_da8c8_0 17 rfl) rfl 2 rfl rfl ?_
      refine j_iload_n (q := 29) hx (dc kJx4a65c_clear_da8c8_0 18 rfl) rfl 1 rfl rfl ?_
      refine j_icmp_geS (q := 32) (tgt := 42) hx (dc kJx4a65c_clear_da8c8_0 19 rfl) (by decide) rfl ?_ ?_
      · refine j_exit ?_
        exact r_vW hx hR (dc kJx4a65c_clear_da8c8_0 26 rfl)
      · refine j_aload_n (q := 33) hx (dc kJx4a65c_clear_da8c8_0 20 rfl) rfl 0 rfl rfl ?_
        refine j_iload_n (q := 34) hx (dc kJx4a65c_clear_da8c8_0 21 rfl) rfl 2 rfl rfl ?_
        refine j_null (q := 35) hx (dc kJx4a65c_clear_da8c8_0 22 rfl) rfl ?_
        refine w_stN (t := 3) (q := 36) hx (dc kJx4a65c_clear_da8c8_0 23 rfl) rfl (by decide) rfl (fun h6 => ?_)
        refine j_iinc (q := 39) (l2 := [(1, vR x.2.2.2 x1), (2, .int x2)]) hx (dc kJx4a65c_clear_da8c8_0 24 rfl) 2 rfl (v := (1 : Int32)) (by decide) (hn 3 (by decide)) [0, 1] rfl ⟨⟨show (1 : Nat) ≠ 3 by decide, Or.inl (show (1 : Nat) + 1 ≠ 3 by decide)⟩, ⟨⟨show (2 : Nat) ≠ 3 by decide, Or.inr rfl⟩, trivial⟩⟩ rfl ?_
        refine j_goto (q := 27) hx (dc kJx4a65c_clear_da8c8_0 25 rfl) (by decide) ?_
        exact j_back [1, 2, 0] ((x3 + (1 : Int32)), h6) rfl rfl
    exact j_loop (S := (Int32 × Hp)) (lvf := fun s => [(1, vR x.2.2.2 x1), (2, .int x2), (3, .int s.1)]) (hpf := fun s => s.2) (f := (fun s : (Int32 × Hp) => mJx4a65c_clear_da8c8_l27f x1 x2 s.1 s.2)) (fun s => hB s.1 s.2) (x3, h)
  unfold mJx4a65c_clear_da8c8
  refine J.ckd fun hck => ?_
  refine j_aload_n (q := 1) hx (dc kJx4a65c_clear_da8c8_0 0 rfl) rfl 0 rfl rfl ?_
  refine j_dup (q := 2) hx (dc kJx4a65c_clear_da8c8_0 1 rfl) (vR_cat _ _) rfl ?_
  refine w_gI (q := 5) hx (dc kJx4a65c_clear_da8c8_0 2 rfl) ff_Jx4a65c_0 lk_Jx4a65c_63 rfl (fun v1 => ?_)
  refine j_iconst (q := 6) (v := (1 : Int32)) hx (dc kJx4a65c_clear_da8c8_0 3 rfl) (by decide) rfl ?_
  refine j_iadd (q := 7) hx (dc kJx4a65c_clear_da8c8_0 4 rfl) rfl ?_
  refine w_sI (q := 10) hx (dc kJx4a65c_clear_da8c8_0 5 rfl) ff_Jx4a65c_0 rfl lk_Jx4a65c_63 (Or.inl rfl) rfl (fun h2 => ?_)
  refine j_aload_n (q := 11) hx (dc kJx4a65c_clear_da8c8_0 6 rfl) rfl 0 rfl rfl ?_
  refine w_gR (q := 14) hx (dc kJx4a65c_clear_da8c8_0 7 rfl) ff_Jx4a65c_1 lk_Jx4a65c_9 rfl (fun v3 => ?_)
  refine j_astore_n (q := 15) (i := 1) (l2 := [(0, vR x.2.2.2 x0)]) hx (dc kJx4a65c_clear_da8c8_0 8 rfl) rfl (hn 1 (by decide)) [0] rfl ⟨⟨show (0 : Nat) ≠ 1 by decide, Or.inr (vR_cat _ _)⟩, trivial⟩ rfl ?_
  refine j_aload_n (q := 16) hx (dc kJx4a65c_clear_da8c8_0 9 rfl) rfl 1 rfl rfl ?_
  refine w_gI (q := 19) hx (dc kJx4a65c_clear_da8c8_0 10 rfl) ff_Jx4a65c_2 lk_Jx4a65c_48 rfl (fun v4 => ?_)
  refine j_istore_n (q := 20) (i := 2) (l2 := [(1, vR x.2.2.2 v3), (0, vR x.2.2.2 x0)]) hx (dc kJx4a65c_clear_da8c8_0 11 rfl) rfl (hn 2 (by decide)) [0, 1] rfl ⟨⟨show (1 : Nat) ≠ 2 by decide, Or.inr (vR_cat _ _)⟩, ⟨⟨show (0 : Nat) ≠ 2 by decide, Or.inl (show (0 : Nat) + 1 ≠ 2 by decide)⟩, trivial⟩⟩ rfl ?_
  refine j_aload_n (q := 21) hx (dc kJx4a65c_clear_da8c8_0 12 rfl) rfl 2 rfl rfl ?_
  refine j_iconst (q := 22) (v := (0 : Int32)) hx (dc kJx4a65c_clear_da8c8_0 13 rfl) (by decide) rfl ?_
  refine j_dup_x1 (q := 23) hx (dc kJx4a65c_clear_da8c8_0 14 rfl) rfl (vR_cat _ _) rfl ?_
  refine w_sI (q := 26) hx (dc kJx4a65c_clear_da8c8_0 15 rfl) ff_Jx4a65c_2 rfl lk_Jx4a65c_48 (Or.inl rfl) rfl (fun h5 => ?_)
  refine j_istore_n (q := 27) (i := 3) (l2 := [(2, .int v4), (1, vR x.2.2.2 v3)]) hx (dc kJx4a65c_clear_da8c8_0 16 rfl) rfl (hn 3 (by decide)) [0, 1] rfl ⟨⟨show (2 : Nat) ≠ 3 by decide, Or.inr rfl⟩, ⟨⟨show (1 : Nat) ≠ 3 by decide, Or.inl (show (1 : Nat) + 1 ≠ 3 by decide)⟩, trivial⟩⟩ rfl ?_
  exact j_sub [2, 1, 0] rfl (hb27 v3 v4 (0 : Int32) h5)

set_option maxHeartbeats 4000000 in
set_option maxRecDepth 100000 in
theorem sJx4a65c_iterator_32c93 (l : Launch) (w : Wd) (x0 : Nat) (h : Hp) (u : (Nat × Hp)) (hK : mJx4a65c_iterator_32c93 x0 h = some u) : M1 l w mi_Jx4a65c_iterator_32c93 2 [vR w x0] h u.2 (some (vR w u.1)) := by
  refine M1.of (own := RJx4a65c) (T := fun _ r => r = u) hK (by decide +kernel) rfl (by first | (simp only [lg_lenR, lg_lenI, lg_lenL, lg_len0]; decide) | decide) (fun x hx hnl hhf hl hw hret hnm hQ h0e => ⟨?_, rfl⟩)
  subst hw
  subst hl
  have hR : Rt x h u.2 (some (vR x.2.2.2 u.1)) ((some (.object "java/util/Iterator"))) := ⟨h0e, hhf, hret, hQ⟩
  have hn : ∀ i, i < 1 → i < x.2.2.1.1.1 := fun i hi => by rw [hnl]; exact hi
  have e0 : lv_args 0 [vR x.2.2.2 x0] = [(0, vR x.2.2.2 x0)] := by simp only [lv_argsR, lv_argsI, lv_argsL, lv_args0]
  rw [e0]
  unfold mJx4a65c_iterator_32c93
  refine J.ckd fun hck => ?_
  refine j_new (q := 3) hx (dc kJx4a65c_iterator_32c93_0 0 rfl) cf19 (by decide) nw_Jx4a65c_267 rfl (fun v2 hvv2 h1 => ?_)
  refine j_dup (q := 4) hx (dc kJx4a65c_iterator_32c93_0 1 rfl) (vR_cat _ _) rfl ?_
  refine j_aload_n (q := 5) hx (dc kJx4a65c_iterator_32c93_0 2 rfl) rfl 0 rfl rfl ?_
  refine w_cIVW (q := 8) (As := [vR x.2.2.2 x0]) (st := [vR x.2.2.2 v2]) hx (dc kJx4a65c_iterator_32c93_0 3 rfl) (cI _ my_Jx35411_init_45d68 lm_Jx4a65c_269 (by decide)) is_Jx35411_init_45d68 rfl rfl (fun u hu => sJx35411_init_45d68 hvv2 _ _ _ _ _ hu) hvv2 (sum_le (sum_R sum_nil) (by decide)) rfl (fun h4 => ?_)
  exact r_aW hx (Or.inl ⟨_, rfl⟩) hR (dc kJx4a65c_iterator_32c93_0 4 rfl)

