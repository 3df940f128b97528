set_option maxHeartbeats 4000000 in
set_option maxRecDepth 100000 in
theorem sX11_copyRow (l : Launch) (w : Wd) (x0 : Nat) (x1 : Nat) (h : Hp) (u : Hp) (hK : mX11_copyRow x0 x1 h = some u) : M1 l w mi_X11_copyRow 1 [vR w x0, vR w x1] h u (none) := by
  refine M1.of (own := RX11) (T := fun _ r => r = u) hK (by decide +kernel) rfl (by first | (simp only [lg_lenR, lg_lenI, lg_lenL, lg_len0]; decide) | decide) (fun x hx hnl hhf hl hw hret hnm hQ h0e => ⟨?_, rfl⟩)
  subst hw
  subst hl
  have hR : Rt x h u (none) (none) := ⟨h0e, hhf, hret, hQ⟩
  have hn : ∀ i, i < 3 → i < x.2.2.1.1.1 := fun i hi => by rw [hnl]; exact hi
  have e0 : lv_args 0 [vR x.2.2.2 x0, vR x.2.2.2 x1] = [(0, vR x.2.2.2 x0), (1, vR x.2.2.2 x1)] := by simp only [lv_argsR, lv_argsI, lv_argsL, lv_args0]
  rw [e0]
  have hb2 : ∀ (x0 : Nat) (x1 : Nat) (x2 : Int32) (h : Hp), J x 2 [(0, vR x.2.2.2 x0), (1, vR x.2.2.2 x1), (2, .int x2)] [] h (mX11_copyRow_l2 x0 x1 x2 h) (fun r => r = u) := by
    intro x0 x1 x2 h
    have hB : ∀ (x2 : Int32) (h : Hp), J x 2 [(0, vR x.2.2.2 x0), (1, vR x.2.2.2 x1), (2, .int x2)] [] h (mX11_copyRow_l2f x0 x1 x2 h) (TL (S := (Int32 × Hp)) x 2 (fun s => [(0, vR x.2.2.2 x0), (1, vR x.2.2.2 x1), (2, .int s.1)]) [] (fun s => s.2) (fun r => r = u)) := by
      intro x2 h
      unfold mX11_copyRow_l2f
      refine j_iload_n (q := 3) hx (dc kX11_copyRow_0 2 rfl) rfl 2 rfl rfl ?_
      refine j_aload_n (q := 4) hx (dc kX11_copyRow_0 3 rfl) rfl 0 rfl rfl ?_
      refine j_alen (q := 5) hx (dc kX11_copyRow_0 4 rfl) rfl (fun v1 => ?_)
      refine j_icmp_geS (q := 8) (tgt := 26) hx (dc kX11_copyRow_0 5 rfl) (by decide) rfl ?_ ?_
      · refine j_exit ?_
        exact r_vW hx hR (dc kX11_copyRow_0 18 rfl)
      · refine j_iload_n (q := 9) hx (dc kX11_copyRow_0 6 rfl) rfl 2 rfl rfl ?_
        refine j_aload_n (q := 10) hx (dc kX11_copyRow_0 7 rfl) rfl 1 rfl rfl ?_
        refine j_alen (q := 11) hx (dc kX11_copyRow_0 8 rfl) rfl (fun v2 => ?_)
        refine j_icmp_geS (q := 14) (tgt := 26) hx (dc kX11_copyRow_0 9 rfl) (by decide) rfl ?_ ?_
        · refine j_exit ?_
          exact r_vW hx hR (dc kX11_copyRow_0 18 rfl)
        · refine j_aload_n (q := 15) hx (dc kX11_copyRow_0 10 rfl) rfl 1 rfl rfl ?_
          refine j_iload_n (q := 16) hx (dc kX11_copyRow_0 11 rfl) rfl 2 rfl rfl ?_
          refine j_aload_n (q := 17) hx (dc kX11_copyRow_0 12 rfl) rfl 0 rfl rfl ?_
          refine j_iload_n (q := 18) hx (dc kX11_copyRow_0 13 rfl) rfl 2 rfl rfl ?_
          refine j_ldI (q := 19) hx (dc kX11_copyRow_0 14 rfl) rfl (fun v3 => ?_)
          refine w_stI (q := 20) hx (dc kX11_copyRow_0 15 rfl) rfl (fun h4 => ?_)
          refine j_iinc (q := 23) (l2 := [(0, vR x.2.2.2 x0), (1, vR x.2.2.2 x1)]) hx (dc kX11_copyRow_0 16 rfl) 2 rfl (v := (1 : Int32)) (by decide) (hn 2 (by decide)) [0, 1] rfl ⟨⟨show (0 : Nat) ≠ 2 by decide, Or.inl (show (0 : Nat) + 1 ≠ 2 by decide)⟩, ⟨⟨show (1 : Nat) ≠ 2 by decide, Or.inr (vR_cat _ _)⟩, trivial⟩⟩ rfl ?_
          refine j_goto (q := 2) hx (dc kX11_copyRow_0 17 rfl) (by decide) ?_
          exact j_back [1, 2, 0] ((x2 + (1 : Int32)), h4) rfl rfl
    exact j_loop (S := (Int32 × Hp)) (lvf := fun s => [(0, vR x.2.2.2 x0), (1, vR x.2.2.2 x1), (2, .int s.1)]) (hpf := fun s => s.2) (f := (fun s : (Int32 × Hp) => mX11_copyRow_l2f x0 x1 s.1 s.2)) (fun s => hB s.1 s.2) (x2, h)
  unfold mX11_copyRow
  refine j_iconst (q := 1) (v := (0 : Int32)) hx (dc kX11_copyRow_0 0 rfl) (by decide) rfl ?_
  refine j_istore_n (q := 2) (i := 2) (l2 := [(0, vR x.2.2.2 x0), (1, vR x.2.2.2 x1)]) hx (dc kX11_copyRow_0 1 rfl) rfl (hn 2 (by decide)) [0, 1] rfl ⟨⟨show (0 : Nat) ≠ 2 by decide, Or.inl (show (0 : Nat) + 1 ≠ 2 by decide)⟩, ⟨⟨show (1 : Nat) ≠ 2 by decide, Or.inr (vR_cat _ _)⟩, trivial⟩⟩ rfl ?_
  exact j_sub [1, 2, 0] rfl (hb2 x0 x1 (0 : Int32) h)

set_option maxHeartbeats 4000000 in
set_option maxRecDepth 100000 in
theorem sX5_copy (l : Launch) (w : Wd) (x0 : Nat) (x1 : Nat) (h : Hp) (u : Hp) (hK : mX5_copy x0 x1 h = some u) : M1 l w mi_X5_copy 2 [vR w x0, vR w x1] h u (none) := by
  refine M1.of (own := RX5) (T := fun _ r => r = u) hK (by decide +kernel) rfl (by first | (simp only [lg_lenR, lg_lenI, lg_lenL, lg_len0]; decide) | decide) (fun x hx hnl hhf hl hw hret hnm hQ h0e => ⟨?_, rfl⟩)
  subst hw
  subst hl
  have hR : Rt x h u (none) (none) := ⟨h0e, hhf, hret, hQ⟩
  have hn : ∀ i, i < 2 → i < x.2.2.1.1.1 := fun i hi => by rw [hnl]; exact hi
  have e0 : lv_args 0 [vR x.2.2.2 x0, vR x.2.2.2 x1] = [(0, vR x.2.2.2 x0), (1, vR x.2.2.2 x1)] := by simp only [lv_argsR, lv_argsI, lv_argsL, lv_args0]
  rw [e0]
  unfold mX5_copy
  refine J.ckd fun hk0 => ?_
  refine j_aload_n (q := 1) hx (dc kX5_copy_0 0 rfl) rfl 0 rfl rfl ?_
  refine j_aload_n (q := 2) hx (dc kX5_copy_0 1 rfl) rfl 1 rfl rfl ?_
  refine w_gI (q := 5) hx (dc kX5_copy_0 2 rfl) ff_X5_0 lk_X5_30 rfl (fun v1 => ?_)
  refine w_sI (q := 8) hx (dc kX5_copy_0 3 rfl) ff_X5_0 rfl lk_X5_30 (Or.inl rfl) rfl (fun h2 => ?_)
  refine j_aload_n (q := 9) hx (dc kX5_copy_0 4 rfl) rfl 0 rfl rfl ?_
  refine j_aload_n (q := 10) hx (dc kX5_copy_0 5 rfl) rfl 1 rfl rfl ?_
  refine w_gI (q := 13) hx (dc kX5_copy_0 6 rfl) ff_X5_1 lk_X5_34 rfl (fun v3 => ?_)
  refine w_sZ (q := 16) hx (dc kX5_copy_0 7 rfl) ff_X5_1 rfl lk_X5_34 (Or.inl rfl) rfl (fun h4 => ?_)
  refine j_aload_n (q := 17) hx (dc kX5_copy_0 8 rfl) rfl 0 rfl rfl ?_
  refine j_aload_n (q := 18) hx (dc kX5_copy_0 9 rfl) rfl 1 rfl rfl ?_
  refine w_gI (q := 21) hx (dc kX5_copy_0 10 rfl) ff_X5_2 lk_X5_38 rfl (fun v5 => ?_)
  refine w_sI (q := 24) hx (dc kX5_copy_0 11 rfl) ff_X5_2 rfl lk_X5_38 (Or.inl rfl) rfl (fun h6 => ?_)
  refine j_aload_n (q := 25) hx (dc kX5_copy_0 12 rfl) rfl 0 rfl rfl ?_
  refine j_aload_n (q := 26) hx (dc kX5_copy_0 13 rfl) rfl 1 rfl rfl ?_
  refine w_gI (q := 29) hx (dc kX5_copy_0 14 rfl) ff_X5_3 lk_X5_41 rfl (fun v7 => ?_)
  refine w_sI (q := 32) hx (dc kX5_copy_0 15 rfl) ff_X5_3 rfl lk_X5_41 (Or.inl rfl) rfl (fun h8 => ?_)
  refine j_aload_n (q := 33) hx (dc kX5_copy_0 16 rfl) rfl 0 rfl rfl ?_
  refine j_aload_n (q := 34) hx (dc kX5_copy_0 17 rfl) rfl 1 rfl rfl ?_
  refine w_gI (q := 37) hx (dc kX5_copy_0 18 rfl) ff_X5_4 lk_X5_44 rfl (fun v9 => ?_)
  refine w_sI (q := 40) hx (dc kX5_copy_0 19 rfl) ff_X5_4 rfl lk_X5_44 (Or.inl rfl) rfl (fun h10 => ?_)
  refine j_aload_n (q := 41) hx (dc kX5_copy_0 20 rfl) rfl 0 rfl rfl ?_
  refine j_aload_n (q := 42) hx (dc kX5_copy_0 21 rfl) rfl 1 rfl rfl ?_
  refine w_gI (q := 45) hx (dc kX5_copy_0 22 rfl) ff_X5_5 lk_X5_47 rfl (fun v11 => ?_)
  refine w_sI (q := 48) hx (dc kX5_copy_0 23 rfl) ff_X5_5 rfl lk_X5_47 (Or.inl rfl) rfl (fun h12 => ?_)
  refine j_aload_n (q := 49) hx (dc kX5_copy_0 24 rfl) rfl 0 rfl rfl ?_
  refine j_aload_n (q := 50) hx (dc kX5_copy_0 25 rfl) rfl 1 rfl rfl ?_
  refine w_gI (q := 53) hx (dc kX5_copy_0 26 rfl) ff_X5_6 lk_X5_50 rfl (fun v13 => ?_)
  refine w_sI (q := 56) hx (dc kX5_copy_0 27 rfl) ff_X5_6 rfl lk_X5_50 (Or.inl rfl) rfl (fun h14 => ?_)
  refine j_aload_n (q := 57) hx (dc kX5_copy_0 28 rfl) rfl 0 rfl rfl ?_
  refine j_aload_n (q := 58) hx (dc kX5_copy_0 29 rfl) rfl 1 rfl rfl ?_
  refine w_gI (q := 61) hx (dc kX5_copy_0 30 rfl) ff_X5_7 lk_X5_53 rfl (fun v15 => ?_)
  refine w_sI (q := 64) hx (dc kX5_copy_0 31 rfl) ff_X5_7 rfl lk_X5_53 (Or.inl rfl) rfl (fun h16 => ?_)
  refine j_aload_n (q := 65) hx (dc kX5_copy_0 32 rfl) rfl 0 rfl rfl ?_
  refine j_aload_n (q := 66) hx (dc kX5_copy_0 33 rfl) rfl 1 rfl rfl ?_
  refine w_gI (q := 69) hx (dc kX5_copy_0 34 rfl) ff_X5_8 lk_X5_56 rfl (fun v17 => ?_)
  refine w_sI (q := 72) hx (dc kX5_copy_0 35 rfl) ff_X5_8 rfl lk_X5_56 (Or.inl rfl) rfl (fun h18 => ?_)
  refine j_aload_n (q := 73) hx (dc kX5_copy_0 36 rfl) rfl 1 rfl rfl ?_
  refine w_gR (q := 76) hx (dc kX5_copy_0 37 rfl) ff_X5_9 lk_X5_9 rfl (fun v19 => ?_)
  refine j_aload_n (q := 77) hx (dc kX5_copy_0 38 rfl) rfl 0 rfl rfl ?_
  refine w_gR (q := 80) hx (dc kX5_copy_0 39 rfl) ff_X5_9 lk_X5_9 rfl (fun v20 => ?_)
  refine w_cSVW (q := 83) (As := [vR x.2.2.2 v19, vR x.2.2.2 v20]) (st := []) hx (dc kX5_copy_0 40 rfl) (cI _ my_X11_copyRow lm_X5_59 (by decide)) st_X11_copyRow rfl (fun u hu => sX11_copyRow _ _ _ _ _ _ hu) (Nat.zero_le _) rfl (fun h22 => ?_)
  refine j_aload_n (q := 84) hx (dc kX5_copy_0 41 rfl) rfl 1 rfl rfl ?_
  refine w_gR (q := 87) hx (dc kX5_copy_0 42 rfl) ff_X5_10 lk_X5_15 rfl (fun v23 => ?_)
  refine j_aload_n (q := 88) hx (dc kX5_copy_0 43 rfl) rfl 0 rfl rfl ?_
  refine w_gR (q := 91) hx (dc kX5_copy_0 44 rfl) ff_X5_10 lk_X5_15 rfl (fun v24 => ?_)
  refine w_cSVW (q := 94) (As := [vR x.2.2.2 v23, vR x.2.2.2 v24]) (st := []) hx (dc kX5_copy_0 45 rfl) (cI _ my_X11_copyRow lm_X5_59 (by decide)) st_X11_copyRow rfl (fun u hu => sX11_copyRow _ _ _ _ _ _ hu) (Nat.zero_le _) rfl (fun h26 => ?_)
  refine j_aload_n (q := 95) hx (dc kX5_copy_0 46 rfl) rfl 1 rfl rfl ?_
  refine w_gR (q := 98) hx (dc kX5_copy_0 47 rfl) ff_X5_11 lk_X5_18 rfl (fun v27 => ?_)
  refine j_aload_n (q := 99) hx (dc kX5_copy_0 48 rfl) rfl 0 rfl rfl ?_
  refine w_gR (q := 102) hx (dc kX5_copy_0 49 rfl) ff_X5_11 lk_X5_18 rfl (fun v28 => ?_)
  refine w_cSVW (q := 105) (As := [vR x.2.2.2 v27, vR x.2.2.2 v28]) (st := []) hx (dc kX5_copy_0 50 rfl) (cI _ my_X11_copyRow lm_X5_59 (by decide)) st_X11_copyRow rfl (fun u hu => sX11_copyRow _ _ _ _ _ _ hu) (Nat.zero_le _) rfl (fun h30 => ?_)
  refine j_aload_n (q := 106) hx (dc kX5_copy_0 51 rfl) rfl 1 rfl rfl ?_
  refine w_gR (q := 109) hx (dc kX5_copy_0 52 rfl) ff_X5_12 lk_X5_21 rfl (fun v31 => ?_)
  refine j_aload_n (q := 110) hx (dc kX5_copy_0 53 rfl) rfl 0 rfl rfl ?_
  refine w_gR (q := 113) hx (dc kX5_copy_0 54 rfl) ff_X5_12 lk_X5_21 rfl (fun v32 => ?_)
  refine w_cSVW (q := 116) (As := [vR x.2.2.2 v31, vR x.2.2.2 v32]) (st := []) hx (dc kX5_copy_0 55 rfl) (cI _ my_X11_copyRow lm_X5_59 (by decide)) st_X11_copyRow rfl (fun u hu => sX11_copyRow _ _ _ _ _ _ hu) (Nat.zero_le _) rfl (fun h34 => ?_)
  refine j_aload_n (q := 117) hx (dc kX5_copy_0 56 rfl) rfl 1 rfl rfl ?_
  refine w_gR (q := 120) hx (dc kX5_copy_0 57 rfl) ff_X5_13 lk_X5_24 rfl (fun v35 => ?_)
  refine j_aload_n (q := 121) hx (dc kX5_copy_0 58 rfl) rfl 0 rfl rfl ?_
  refine w_gR (q := 124) hx (dc kX5_copy_0 59 rfl) ff_X5_13 lk_X5_24 rfl (fun v36 => ?_)
  refine w_cSVW (q := 127) (As := [vR x.2.2.2 v35, vR x.2.2.2 v36]) (st := []) hx (dc kX5_copy_0 60 rfl) (cI _ my_X11_copyRow lm_X5_59 (by decide)) st_X11_copyRow rfl (fun u hu => sX11_copyRow _ _ _ _ _ _ hu) (Nat.zero_le _) rfl (fun h38 => ?_)
  refine j_aload_n (q := 128) hx (dc kX5_copy_0 61 rfl) rfl 1 rfl rfl ?_
  refine w_gR (q := 131) hx (dc kX5_copy_0 62 rfl) ff_X5_14 lk_X5_27 rfl (fun v39 => ?_)
  refine j_aload_n (q := 132) hx (dc kX5_copy_0 63 rfl) rfl 0 rfl rfl ?_
  refine w_gR (q := 135) hx (dc kX5_copy_1 0 rfl) ff_X5_14 lk_X5_27 rfl (fun v40 => ?_)
  refine w_cSVW (q := 138) (As := [vR x.2.2.2 v39, vR x.2.2.2 v40]) (st := []) hx (dc kX5_copy_1 1 rfl) (cI _ my_X11_copyRow lm_X5_59 (by decide)) st_X11_copyRow rfl (fun u hu => sX11_copyRow _ _ _ _ _ _ hu) (Nat.zero_le _) rfl (fun h42 => ?_)
  exact r_vW hx hR (dc kX5_copy_1 2 rfl)

set_option maxHeartbeats 4000000 in
set_option maxRecDepth 100000 in
theorem sX11_has (l : Launch) (w : Wd) (x0 : Int32) (x1 : Int32) (h : Hp) (u : Int32) (hK : mX11_has x0 x1 = some u) : M1 l w mi_X11_has 1 [.int x0, .int x1] h h (some (.int u)) := by
  refine M1.of (own := RX11) (T := fun _ r => r = u) hK (by decide +kernel) rfl (by first | (simp only [lg_lenR, lg_lenI, lg_lenL, lg_len0]; decide) | decide) (fun x hx hnl hhf hl hw hret hnm hQ h0e => ⟨?_, rfl⟩)
  subst hw
  subst hl
  have hR : Rt x h h (some (.int u)) ((some .boolean)) := ⟨h0e, hhf, hret, hQ⟩
  have hn : ∀ i, i < 2 → i < x.2.2.1.1.1 := fun i hi => by rw [hnl]; exact hi
  have e0 : lv_args 0 [.int x0, .int x1] = [(0, .int x0), (1, .int x1)] := by simp only [lv_argsR, lv_argsI, lv_argsL, lv_args0]
  rw [e0]
  unfold mX11_has
  refine j_iload_n (q := 1) hx (dc kX11_has_0 0 rfl) rfl 0 rfl rfl ?_
  refine j_iload_n (q := 2) hx (dc kX11_has_0 1 rfl) rfl 1 rfl rfl ?_
  refine j_ishr (q := 3) hx (dc kX11_has_0 2 rfl) rfl ?_
  refine j_iconst (q := 4) (v := (1 : Int32)) hx (dc kX11_has_0 3 rfl) (by decide) rfl ?_
  refine j_iand (q := 5) hx (dc kX11_has_0 4 rfl) rfl ?_
  refine j_if_eq (q := 8) (tgt := 12) hx (dc kX11_has_0 5 rfl) (by decide) Iff.rfl rfl ?_ ?_
  · refine j_iconst (q := 13) (v := (0 : Int32)) hx (dc kX11_has_0 8 rfl) (by decide) rfl ?_
    exact r_cR hx (Or.inl rfl) hR (dc kX11_has_0 9 rfl)
  · refine j_iconst (q := 9) (v := (1 : Int32)) hx (dc kX11_has_0 6 rfl) (by decide) rfl ?_
    refine j_goto (q := 13) hx (dc kX11_has_0 7 rfl) (by decide) ?_
    exact r_cR hx (Or.inr rfl) hR (dc kX11_has_0 9 rfl)

set_option maxHeartbeats 4000000 in
set_option maxRecDepth 100000 in
theorem sX11_wipe (l : Launch) (w : Wd) (x0 : Nat) (h : Hp) (u : Hp) (hK : mX11_wipe x0 h = some u) : M1 l w mi_X11_wipe 1 [vR w x0] h u (none) := by
  refine M1.of (own := RX11) (T := fun _ r => r = u) hK (by decide +kernel) rfl (by first | (simp only [lg_lenR, lg_lenI, lg_lenL, lg_len0]; decide) | decide) (fun x hx hnl hhf hl hw hret hnm hQ h0e => ⟨?_, rfl⟩)
  subst hw
  subst hl
  have hR : Rt x h u (none) (none) := ⟨h0e, hhf, hret, hQ⟩
  have hn : ∀ i, i < 2 → i < x.2.2.1.1.1 := fun i hi => by rw [hnl]; exact hi
  have e0 : lv_args 0 [vR x.2.2.2 x0] = [(0, vR x.2.2.2 x0)] := by simp only [lv_argsR, lv_argsI, lv_argsL, lv_args0]
  rw [e0]
  have hb2 : ∀ (x0 : Nat) (x1 : Int32) (h : Hp), J x 2 [(0, vR x.2.2.2 x0), (1, .int x1)] [] h (mX11_wipe_l2 x0 x1 h) (fun r => r = u) := by
    intro x0 x1 h
    have hB : ∀ (x1 : Int32) (h : Hp), J x 2 [(0, vR x.2.2.2 x0), (1, .int x1)] [] h (mX11_wipe_l2f x0 x1 h) (TL (S := (Int32 × Hp)) x 2 (fun s => [(0, vR x.2.2.2 x0), (1, .int s.1)]) [] (fun s => s.2) (fun r => r = u)) := by
      intro x1 h
      unfold mX11_wipe_l2f
      refine j_iload_n (q := 3) hx (dc kX11_wipe_0 2 rfl) rfl 1 rfl rfl ?_
      refine j_aload_n (q := 4) hx (dc kX11_wipe_0 3 rfl) rfl 0 rfl rfl ?_
      refine j_alen (q := 5) hx (dc kX11_wipe_0 4 rfl) rfl (fun v1 => ?_)
      refine j_icmp_geS (q := 8) (tgt := 18) hx (dc kX11_wipe_0 5 rfl) (by decide) rfl ?_ ?_
      · refine j_exit ?_
        exact r_vW hx hR (dc kX11_wipe_0 12 rfl)
      · refine j_aload_n (q := 9) hx (dc kX11_wipe_0 6 rfl) rfl 0 rfl rfl ?_
        refine j_iload_n (q := 10) hx (dc kX11_wipe_0 7 rfl) rfl 1 rfl rfl ?_
        refine j_iconst (q := 11) (v := (0 : Int32)) hx (dc kX11_wipe_0 8 rfl) (by decide) rfl ?_
        refine w_stI (q := 12) hx (dc kX11_wipe_0 9 rfl) rfl (fun h2 => ?_)
        refine j_iinc (q := 15) (l2 := [(0, vR x.2.2.2 x0)]) hx (dc kX11_wipe_0 10 rfl) 1 rfl (v := (1 : Int32)) (by decide) (hn 1 (by decide)) [0] rfl ⟨⟨show (0 : Nat) ≠ 1 by decide, Or.inr (vR_cat _ _)⟩, trivial⟩ rfl ?_
        refine j_goto (q := 2) hx (dc kX11_wipe_0 11 rfl) (by decide) ?_
        exact j_back [1, 0] ((x1 + (1 : Int32)), h2) rfl rfl
    exact j_loop (S := (Int32 × Hp)) (lvf := fun s => [(0, vR x.2.2.2 x0), (1, .int s.1)]) (hpf := fun s => s.2) (f := (fun s : (Int32 × Hp) => mX11_wipe_l2f x0 s.1 s.2)) (fun s => hB s.1 s.2) (x1, h)
  unfold mX11_wipe
  refine j_iconst (q := 1) (v := (0 : Int32)) hx (dc kX11_wipe_0 0 rfl) (by decide) rfl ?_
  refine j_istore_n (q := 2) (i := 1) (l2 := [(0, vR x.2.2.2 x0)]) hx (dc kX11_wipe_0 1 rfl) rfl (hn 1 (by decide)) [0] rfl ⟨⟨show (0 : Nat) ≠ 1 by decide, Or.inr (vR_cat _ _)⟩, trivial⟩ rfl ?_
  exact j_sub [1, 0] rfl (hb2 x0 (0 : Int32) h)

set_option maxHeartbeats 4000000 in
set_option maxRecDepth 100000 in
theorem sX10_fill (l : Launch) (w : Wd) (x0 : Nat) (h : Hp) (u : Hp) (hK : mX10_fill x0 h = some u) : M1 l w mi_X10_fill 1 [vR w x0] h u (none) := by
  refine M1.of (own := RX10) (T := fun _ r => r = u) hK (by decide +kernel) rfl (by first | (simp only [lg_lenR, lg_lenI, lg_lenL, lg_len0]; decide) | decide) (fun x hx hnl hhf hl hw hret hnm hQ h0e => ⟨?_, rfl⟩)
  subst hw
  subst hl
  have hR : Rt x h u (none) (none) := ⟨h0e, hhf, hret, hQ⟩
  have hn : ∀ i, i < 2 → i < x.2.2.1.1.1 := fun i hi => by rw [hnl]; exact hi
  have e0 : lv_args 0 [vR x.2.2.2 x0] = [(0, vR x.2.2.2 x0)] := by simp only [lv_argsR, lv_argsI, lv_argsL, lv_args0]
  rw [e0]
  have hb2 : ∀ (x0 : Nat) (x1 : Int32) (h : Hp), J x 2 [(0, vR x.2.2.2 x0), (1, .int x1)] [] h (mX10_fill_l2 x0 x1 h) (fun r => r = u) := by
    intro x0 x1 h
    have hB : ∀ (x1 : Int32) (h : Hp), J x 2 [(0, vR x.2.2.2 x0), (1, .int x1)] [] h (mX10_fill_l2f x0 x1 h) (TL (S := (Int32 × Hp)) x 2 (fun s => [(0, vR x.2.2.2 x0), (1, .int s.1)]) [] (fun s => s.2) (fun r => r = u)) := by
      intro x1 h
      unfold mX10_fill_l2f
      refine j_iload_n (q := 3) hx (dc kX10_fill_0 2 rfl) rfl 1 rfl rfl ?_
      refine j_aload_n (q := 4) hx (dc kX10_fill_0 3 rfl) rfl 0 rfl rfl ?_
      refine w_gR (q := 7) hx (dc kX10_fill_0 4 rfl) ff_X10_0 lk_X10_9 rfl (fun v1 => ?_)
      refine j_alen (q := 8) hx (dc kX10_fill_0 5 rfl) rfl (fun v2 => ?_)
      refine j_icmp_geS (q := 11) (tgt := 26) hx (dc kX10_fill_0 6 rfl) (by decide) rfl ?_ ?_
      · refine j_exit ?_
        exact r_vW hx hR (dc kX10_fill_0 14 rfl)
      · refine j_aload_n (q := 12) hx (dc kX10_fill_0 7 rfl) rfl 0 rfl rfl ?_
        refine w_gR (q := 15) hx (dc kX10_fill_0 8 rfl) ff_X10_0 lk_X10_9 rfl (fun v3 => ?_)
        refine j_iload_n (q := 16) hx (dc kX10_fill_0 9 rfl) rfl 1 rfl rfl ?_
        refine j_ldc2 (q := 19) hx kl_X10_18 (dc kX10_fill_0 10 rfl) rfl ?_
        refine w_stL (q := 20) hx (dc kX10_fill_0 11 rfl) rfl (fun h4 => ?_)
        refine j_iinc (q := 23) (l2 := [(0, vR x.2.2.2 x0)]) hx (dc kX10_fill_0 12 rfl) 1 rfl (v := (1 : Int32)) (by decide) (hn 1 (by decide)) [0] rfl ⟨⟨show (0 : Nat) ≠ 1 by decide, Or.inr (vR_cat _ _)⟩, trivial⟩ rfl ?_
        refine j_goto (q := 2) hx (dc kX10_fill_0 13 rfl) (by decide) ?_
        exact j_back [1, 0] ((x1 + (1 : Int32)), h4) rfl rfl
    exact j_loop (S := (Int32 × Hp)) (lvf := fun s => [(0, vR x.2.2.2 x0), (1, .int s.1)]) (hpf := fun s => s.2) (f := (fun s : (Int32 × Hp) => mX10_fill_l2f x0 s.1 s.2)) (fun s => hB s.1 s.2) (x1, h)
  unfold mX10_fill
  refine J.ckd fun hk0 => ?_
  refine j_iconst (q := 1) (v := (0 : Int32)) hx (dc kX10_fill_0 0 rfl) (by decide) rfl ?_
  refine j_istore_n (q := 2) (i := 1) (l2 := [(0, vR x.2.2.2 x0)]) hx (dc kX10_fill_0 1 rfl) rfl (hn 1 (by decide)) [0] rfl ⟨⟨show (0 : Nat) ≠ 1 by decide, Or.inr (vR_cat _ _)⟩, trivial⟩ rfl ?_
  exact j_sub [1, 0] rfl (hb2 x0 (0 : Int32) h)

set_option maxHeartbeats 4000000 in
set_option maxRecDepth 100000 in
theorem sX11_at (l : Launch) (w : Wd) (x0 : Nat) (x1 : Int32) (h : Hp) (u : Int32) (hK : mX11_at x0 x1 h = some u) : M1 l w mi_X11_at 1 [vR w x0, .int x1] h h (some (.int u)) := by
  refine M1.of (own := RX11) (T := fun _ r => r = u) hK (by decide +kernel) rfl (by first | (simp only [lg_lenR, lg_lenI, lg_lenL, lg_len0]; decide) | decide) (fun x hx hnl hhf hl hw hret hnm hQ h0e => ⟨?_, rfl⟩)
  subst hw
  subst hl
  have hR : Rt x h h (some (.int u)) ((some .int)) := ⟨h0e, hhf, hret, hQ⟩
  have hn : ∀ i, i < 2 → i < x.2.2.1.1.1 := fun i hi => by rw [hnl]; exact hi
  have e0 : lv_args 0 [vR x.2.2.2 x0, .int x1] = [(0, vR x.2.2.2 x0), (1, .int x1)] := by simp only [lv_argsR, lv_argsI, lv_argsL, lv_args0]
  rw [e0]
  unfold mX11_at
  refine j_iload_n (q := 1) hx (dc kX11_at_0 0 rfl) rfl 1 rfl rfl ?_
  refine j_if_lt (q := 4) (tgt := 16) hx (dc kX11_at_0 1 rfl) (by decide) Iff.rfl rfl ?_ ?_
  · refine j_iconst (q := 17) (v := (0 : Int32)) hx (dc kX11_at_0 10 rfl) (by decide) rfl ?_
    exact r_iR hx hR (dc kX11_at_0 11 rfl)
  · refine j_iload_n (q := 5) hx (dc kX11_at_0 2 rfl) rfl 1 rfl rfl ?_
    refine j_aload_n (q := 6) hx (dc kX11_at_0 3 rfl) rfl 0 rfl rfl ?_
    refine j_alen (q := 7) hx (dc kX11_at_0 4 rfl) rfl (fun v1 => ?_)
    refine j_icmp_geS (q := 10) (tgt := 16) hx (dc kX11_at_0 5 rfl) (by decide) rfl ?_ ?_
    · refine j_iconst (q := 17) (v := (0 : Int32)) hx (dc kX11_at_0 10 rfl) (by decide) rfl ?_
      exact r_iR hx hR (dc kX11_at_0 11 rfl)
    · refine j_aload_n (q := 11) hx (dc kX11_at_0 6 rfl) rfl 0 rfl rfl ?_
      refine j_iload_n (q := 12) hx (dc kX11_at_0 7 rfl) rfl 1 rfl rfl ?_
      refine j_ldI (q := 13) hx (dc kX11_at_0 8 rfl) rfl (fun v2 => ?_)
      refine j_goto (q := 17) hx (dc kX11_at_0 9 rfl) (by decide) ?_
      exact r_iR hx hR (dc kX11_at_0 11 rfl)

set_option maxHeartbeats 4000000 in
set_option maxRecDepth 100000 in
theorem sX11_longAt (l : Launch) (w : Wd) (x0 : Nat) (x1 : Int32) (h : Hp) (u : Int64) (hK : mX11_longAt x0 x1 h = some u) : M1 l w mi_X11_longAt 1 [vR w x0, .int x1] h h (some (.long u)) := by
  refine M1.of (own := RX11) (T := fun _ r => r = u) hK (by decide +kernel) rfl (by first | (simp only [lg_lenR, lg_lenI, lg_lenL, lg_len0]; decide) | decide) (fun x hx hnl hhf hl hw hret hnm hQ h0e => ⟨?_, rfl⟩)
  subst hw
  subst hl
  have hR : Rt x h h (some (.long u)) ((some .long)) := ⟨h0e, hhf, hret, hQ⟩
  have hn : ∀ i, i < 2 → i < x.2.2.1.1.1 := fun i hi => by rw [hnl]; exact hi
  have e0 : lv_args 0 [vR x.2.2.2 x0, .int x1] = [(0, vR x.2.2.2 x0), (1, .int x1)] := by simp only [lv_argsR, lv_argsI, lv_argsL, lv_args0]
  rw [e0]
  unfold mX11_longAt
  refine j_iload_n (q := 1) hx (dc kX11_longAt_0 0 rfl) rfl 1 rfl rfl ?_
  refine j_if_lt (q := 4) (tgt := 16) hx (dc kX11_longAt_0 1 rfl) (by decide) Iff.rfl rfl ?_ ?_
  · refine j_lconst (q := 17) (v := (0 : Int64)) hx (dc kX11_longAt_0 10 rfl) (by decide) rfl ?_
    exact r_lR hx hR (dc kX11_longAt_0 11 rfl)
  · refine j_iload_n (q := 5) hx (dc kX11_longAt_0 2 rfl) rfl 1 rfl rfl ?_
    refine j_aload_n (q := 6) hx (dc kX11_longAt_0 3 rfl) rfl 0 rfl rfl ?_
    refine j_alen (q := 7) hx (dc kX11_longAt_0 4 rfl) rfl (fun v1 => ?_)
    refine j_icmp_geS (q := 10) (tgt := 16) hx (dc kX11_longAt_0 5 rfl) (by decide) rfl ?_ ?_
    · refine j_lconst (q := 17) (v := (0 : Int64)) hx (dc kX11_longAt_0 10 rfl) (by decide) rfl ?_
      exact r_lR hx hR (dc kX11_longAt_0 11 rfl)
    · refine j_aload_n (q := 11) hx (dc kX11_longAt_0 6 rfl) rfl 0 rfl rfl ?_
      refine j_iload_n (q := 12) hx (dc kX11_longAt_0 7 rfl) rfl 1 rfl rfl ?_
      refine j_ldL (q := 13) hx (dc kX11_longAt_0 8 rfl) rfl (fun v2 => ?_)
      refine j_goto (q := 17) hx (dc kX11_longAt_0 9 rfl) (by decide) ?_
      exact r_lR hx hR (dc kX11_longAt_0 11 rfl)

set_option maxHeartbeats 4000000 in
set_option maxRecDepth 100000 in
theorem sX11_putLong (l : Launch) (w : Wd) (x0 : Nat) (x1 : Int32) (x2 : Int64) (h : Hp) (u : Hp) (hK : mX11_putLong x0 x1 x2 h = some u) : M1 l w mi_X11_putLong 1 [vR w x0, .int x1, .long x2] h u (none) := by
  refine M1.of (own := RX11) (T := fun _ r => r = u) hK (by decide +kernel) rfl (by first | (simp only [lg_lenR, lg_lenI, lg_lenL, lg_len0]; decide) | decide) (fun x hx hnl hhf hl hw hret hnm hQ h0e => ⟨?_, rfl⟩)
  subst hw
  subst hl
  have hR : Rt x h u (none) (none) := ⟨h0e, hhf, hret, hQ⟩
  have hn : ∀ i, i < 4 → i < x.2.2.1.1.1 := fun i hi => by rw [hnl]; exact hi
  have e0 : lv_args 0 [vR x.2.2.2 x0, .int x1, .long x2] = [(0, vR x.2.2.2 x0), (1, .int x1), (2, .long x2)] := by simp only [lv_argsR, lv_argsI, lv_argsL, lv_args0]
  rw [e0]
  unfold mX11_putLong
  refine j_iload_n (q := 1) hx (dc kX11_putLong_0 0 rfl) rfl 1 rfl rfl ?_
  refine j_if_lt (q := 4) (tgt := 14) hx (dc kX11_putLong_0 1 rfl) (by decide) Iff.rfl rfl ?_ ?_
  · exact r_vW hx hR (dc kX11_putLong_0 10 rfl)
  · refine j_iload_n (q := 5) hx (dc kX11_putLong_0 2 rfl) rfl 1 rfl rfl ?_
    refine j_aload_n (q := 6) hx (dc kX11_putLong_0 3 rfl) rfl 0 rfl rfl ?_
    refine j_alen (q := 7) hx (dc kX11_putLong_0 4 rfl) rfl (fun v1 => ?_)
    refine j_icmp_geS (q := 10) (tgt := 14) hx (dc kX11_putLong_0 5 rfl) (by decide) rfl ?_ ?_
    · exact r_vW hx hR (dc kX11_putLong_0 10 rfl)
    · refine j_aload_n (q := 11) hx (dc kX11_putLong_0 6 rfl) rfl 0 rfl rfl ?_
      refine j_iload_n (q := 12) hx (dc kX11_putLong_0 7 rfl) rfl 1 rfl rfl ?_
      refine j_lload_n (q := 13) hx (dc kX11_putLong_0 8 rfl) rfl 2 rfl rfl ?_
      refine w_stL (q := 14) hx (dc kX11_putLong_0 9 rfl) rfl (fun h2 => ?_)
      exact r_vW hx hR (dc kX11_putLong_0 10 rfl)

set_option maxHeartbeats 4000000 in
set_option maxRecDepth 100000 in
theorem sX11_needSlot (l : Launch) (w : Wd) (x0 : Int32) (x1 : Int32) (h : Hp) (u : Int32) (hK : mX11_needSlot x0 x1 = some u) : M1 l w mi_X11_needSlot 1 [.int x0, .int x1] h h (some (.int u)) := by
  refine M1.of (own := RX11) (T := fun _ r => r = u) hK (by decide +kernel) rfl (by first | (simp only [lg_lenR, lg_lenI, lg_lenL, lg_len0]; decide) | decide) (fun x hx hnl hhf hl hw hret hnm hQ h0e => ⟨?_, rfl⟩)
  subst hw
  subst hl
  have hR : Rt x h h (some (.int u)) ((some .int)) := ⟨h0e, hhf, hret, hQ⟩
  have hn : ∀ i, i < 2 → i < x.2.2.1.1.1 := fun i hi => by rw [hnl]; exact hi
  have e0 : lv_args 0 [.int x0, .int x1] = [(0, .int x0), (1, .int x1)] := by simp only [lv_argsR, lv_argsI, lv_argsL, lv_args0]
  rw [e0]
  unfold mX11_needSlot
  refine j_iconst (q := 1) (v := (4 : Int32)) hx (dc kX11_needSlot_0 0 rfl) (by decide) rfl ?_
  refine j_iload_n (q := 2) hx (dc kX11_needSlot_0 1 rfl) rfl 0 rfl rfl ?_
  refine j_imul (q := 3) hx (dc kX11_needSlot_0 2 rfl) rfl ?_
  refine j_iload_n (q := 4) hx (dc kX11_needSlot_0 3 rfl) rfl 1 rfl rfl ?_
  refine j_iadd (q := 5) hx (dc kX11_needSlot_0 4 rfl) rfl ?_
  exact r_iR hx hR (dc kX11_needSlot_0 5 rfl)

set_option maxHeartbeats 4000000 in
set_option maxRecDepth 100000 in
theorem sX10_and (l : Launch) (w : Wd) (x0 : Nat) (x1 : Nat) (h : Hp) (u : Hp) (hK : mX10_and x0 x1 h = some u) : M1 l w mi_X10_and 1 [vR w x0, vR w x1] h u (none) := by
  refine M1.of (own := RX10) (T := fun _ r => r = u) hK (by decide +kernel) rfl (by first | (simp only [lg_lenR, lg_lenI, lg_lenL, lg_len0]; decide) | decide) (fun x hx hnl hhf hl hw hret hnm hQ h0e => ⟨?_, rfl⟩)
  subst hw
  subst hl
  have hR : Rt x h u (none) (none) := ⟨h0e, hhf, hret, hQ⟩
  have hn : ∀ i, i < 3 → i < x.2.2.1.1.1 := fun i hi => by rw [hnl]; exact hi
  have e0 : lv_args 0 [vR x.2.2.2 x0, vR x.2.2.2 x1] = [(0, vR x.2.2.2 x0), (1, vR x.2.2.2 x1)] := by simp only [lv_argsR, lv_argsI, lv_argsL, lv_args0]
  rw [e0]
  have hb2 : ∀ (x0 : Nat) (x1 : Nat) (x2 : Int32) (h : Hp), J x 2 [(0, vR x.2.2.2 x0), (1, vR x.2.2.2 x1), (2, .int x2)] [] h (mX10_and_l2 x0 x1 x2 h) (fun r => r = u) := by
    intro x0 x1 x2 h
    have hB : ∀ (x2 : Int32) (h : Hp), J x 2 [(0, vR x.2.2.2 x0), (1, vR x.2.2.2 x1), (2, .int x2)] [] h (mX10_and_l2f x0 x1 x2 h) (TL (S := (Int32 × Hp)) x 2 (fun s => [(0, vR x.2.2.2 x0), (1, vR x.2.2.2 x1), (2, .int s.1)]) [] (fun s => s.2) (fun r => r = u)) := by
      intro x2 h
      unfold mX10_and_l2f
      refine j_iload_n (q := 3) hx (dc kX10_and_0 2 rfl) rfl 2 rfl rfl ?_
      refine j_aload_n (q := 4) hx (dc kX10_and_0 3 rfl) rfl 0 rfl rfl ?_
      refine w_gR (q := 7) hx (dc kX10_and_0 4 rfl) ff_X10_0 lk_X10_9 rfl (fun v1 => ?_)
      refine j_alen (q := 8) hx (dc kX10_and_0 5 rfl) rfl (fun v2 => ?_)
      refine j_icmp_geS (q := 11) (tgt := 41) hx (dc kX10_and_0 6 rfl) (by decide) rfl ?_ ?_
      · refine j_exit ?_
        exact r_vW hx hR (dc kX10_and_0 25 rfl)
      · refine j_iload_n (q := 12) hx (dc kX10_and_0 7 rfl) rfl 2 rfl rfl ?_
        refine j_aload_n (q := 13) hx (dc kX10_and_0 8 rfl) rfl 1 rfl rfl ?_
        refine w_gR (q := 16) hx (dc kX10_and_0 9 rfl) ff_X10_0 lk_X10_9 rfl (fun v3 => ?_)
        refine j_alen (q := 17) hx (dc kX10_and_0 10 rfl) rfl (fun v4 => ?_)
        refine j_icmp_geS (q := 20) (tgt := 41) hx (dc kX10_and_0 11 rfl) (by decide) rfl ?_ ?_
        · refine j_exit ?_
          exact r_vW hx hR (dc kX10_and_0 25 rfl)
        · refine j_aload_n (q := 21) hx (dc kX10_and_0 12 rfl) rfl 0 rfl rfl ?_
          refine w_gR (q := 24) hx (dc kX10_and_0 13 rfl) ff_X10_0 lk_X10_9 rfl (fun v5 => ?_)
          refine j_iload_n (q := 25) hx (dc kX10_and_0 14 rfl) rfl 2 rfl rfl ?_
          refine j_dup2_11 (q := 26) hx (dc kX10_and_0 15 rfl) rfl (vR_cat _ _) rfl ?_
          refine j_ldL (q := 27) hx (dc kX10_and_0 16 rfl) rfl (fun v6 => ?_)
          refine j_aload_n (q := 28) hx (dc kX10_and_0 17 rfl) rfl 1 rfl rfl ?_
          refine w_gR (q := 31) hx (dc kX10_and_0 18 rfl) ff_X10_0 lk_X10_9 rfl (fun v7 => ?_)
          refine j_iload_n (q := 32) hx (dc kX10_and_0 19 rfl) rfl 2 rfl rfl ?_
          refine j_ldL (q := 33) hx (dc kX10_and_0 20 rfl) rfl (fun v8 => ?_)
          refine j_land (q := 34) hx (dc kX10_and_0 21 rfl) rfl ?_
          refine w_stL (q := 35) hx (dc kX10_and_0 22 rfl) rfl (fun h9 => ?_)
          refine j_iinc (q := 38) (l2 := [(0, vR x.2.2.2 x0), (1, vR x.2.2.2 x1)]) hx (dc kX10_and_0 23 rfl) 2 rfl (v := (1 : Int32)) (by decide) (hn 2 (by decide)) [0, 1] rfl ⟨⟨show (0 : Nat) ≠ 2 by decide, Or.inl (show (0 : Nat) + 1 ≠ 2 by decide)⟩, ⟨⟨show (1 : Nat) ≠ 2 by decide, Or.inr (vR_cat _ _)⟩, trivial⟩⟩ rfl ?_
          refine j_goto (q := 2) hx (dc kX10_and_0 24 rfl) (by decide) ?_
          exact j_back [1, 2, 0] ((x2 + (1 : Int32)), h9) rfl rfl
    exact j_loop (S := (Int32 × Hp)) (lvf := fun s => [(0, vR x.2.2.2 x0), (1, vR x.2.2.2 x1), (2, .int s.1)]) (hpf := fun s => s.2) (f := (fun s : (Int32 × Hp) => mX10_and_l2f x0 x1 s.1 s.2)) (fun s => hB s.1 s.2) (x2, h)
  unfold mX10_and
  refine J.ckd fun hk0 => ?_
  refine j_iconst (q := 1) (v := (0 : Int32)) hx (dc kX10_and_0 0 rfl) (by decide) rfl ?_
  refine j_istore_n (q := 2) (i := 2) (l2 := [(0, vR x.2.2.2 x0), (1, vR x.2.2.2 x1)]) hx (dc kX10_and_0 1 rfl) rfl (hn 2 (by decide)) [0, 1] rfl ⟨⟨show (0 : Nat) ≠ 2 by decide, Or.inl (show (0 : Nat) + 1 ≠ 2 by decide)⟩, ⟨⟨show (1 : Nat) ≠ 2 by decide, Or.inr (vR_cat _ _)⟩, trivial⟩⟩ rfl ?_
  exact j_sub [1, 2, 0] rfl (hb2 x0 x1 (0 : Int32) h)

set_option maxHeartbeats 4000000 in
set_option maxRecDepth 100000 in
theorem sX10_minus (l : Launch) (w : Wd) (x0 : Nat) (x1 : Nat) (h : Hp) (u : Hp) (hK : mX10_minus x0 x1 h = some u) : M1 l w mi_X10_minus 1 [vR w x0, vR w x1] h u (none) := by
  refine M1.of (own := RX10) (T := fun _ r => r = u) hK (by decide +kernel) rfl (by first | (simp only [lg_lenR, lg_lenI, lg_lenL, lg_len0]; decide) | decide) (fun x hx hnl hhf hl hw hret hnm hQ h0e => ⟨?_, rfl⟩)
  subst hw
  subst hl
  have hR : Rt x h u (none) (none) := ⟨h0e, hhf, hret, hQ⟩
  have hn : ∀ i, i < 3 → i < x.2.2.1.1.1 := fun i hi => by rw [hnl]; exact hi
  have e0 : lv_args 0 [vR x.2.2.2 x0, vR x.2.2.2 x1] = [(0, vR x.2.2.2 x0), (1, vR x.2.2.2 x1)] := by simp only [lv_argsR, lv_argsI, lv_argsL, lv_args0]
  rw [e0]
  have hb2 : ∀ (x0 : Nat) (x1 : Nat) (x2 : Int32) (h : Hp), J x 2 [(0, vR x.2.2.2 x0), (1, vR x.2.2.2 x1), (2, .int x2)] [] h (mX10_minus_l2 x0 x1 x2 h) (fun r => r = u) := by
    intro x0 x1 x2 h
    have hB : ∀ (x2 : Int32) (h : Hp), J x 2 [(0, vR x.2.2.2 x0), (1, vR x.2.2.2 x1), (2, .int x2)] [] h (mX10_minus_l2f x0 x1 x2 h) (TL (S := (Int32 × Hp)) x 2 (fun s => [(0, vR x.2.2.2 x0), (1, vR x.2.2.2 x1), (2, .int s.1)]) [] (fun s => s.2) (fun r => r = u)) := by
      intro x2 h
      unfold mX10_minus_l2f
      refine j_iload_n (q := 3) hx (dc kX10_minus_0 2 rfl) rfl 2 rfl rfl ?_
      refine j_aload_n (q := 4) hx (dc kX10_minus_0 3 rfl) rfl 0 rfl rfl ?_
      refine w_gR (q := 7) hx (dc kX10_minus_0 4 rfl) ff_X10_0 lk_X10_9 rfl (fun v1 => ?_)
      refine j_alen (q := 8) hx (dc kX10_minus_0 5 rfl) rfl (fun v2 => ?_)
      refine j_icmp_geS (q := 11) (tgt := 45) hx (dc kX10_minus_0 6 rfl) (by decide) rfl ?_ ?_
      · refine j_exit ?_
        exact r_vW hx hR (dc kX10_minus_0 27 rfl)
      · refine j_iload_n (q := 12) hx (dc kX10_minus_0 7 rfl) rfl 2 rfl rfl ?_
        refine j_aload_n (q := 13) hx (dc kX10_minus_0 8 rfl) rfl 1 rfl rfl ?_
        refine w_gR (q := 16) hx (dc kX10_minus_0 9 rfl) ff_X10_0 lk_X10_9 rfl (fun v3 => ?_)
        refine j_alen (q := 17) hx (dc kX10_minus_0 10 rfl) rfl (fun v4 => ?_)
        refine j_icmp_geS (q := 20) (tgt := 45) hx (dc kX10_minus_0 11 rfl) (by decide) rfl ?_ ?_
        · refine j_exit ?_
          exact r_vW hx hR (dc kX10_minus_0 27 rfl)
        · refine j_aload_n (q := 21) hx (dc kX10_minus_0 12 rfl) rfl 0 rfl rfl ?_
          refine w_gR (q := 24) hx (dc kX10_minus_0 13 rfl) ff_X10_0 lk_X10_9 rfl (fun v5 => ?_)
          refine j_iload_n (q := 25) hx (dc kX10_minus_0 14 rfl) rfl 2 rfl rfl ?_
          refine j_dup2_11 (q := 26) hx (dc kX10_minus_0 15 rfl) rfl (vR_cat _ _) rfl ?_
          refine j_ldL (q := 27) hx (dc kX10_minus_0 16 rfl) rfl (fun v6 => ?_)
          refine j_aload_n (q := 28) hx (dc kX10_minus_0 17 rfl) rfl 1 rfl rfl ?_
          refine w_gR (q := 31) hx (dc kX10_minus_0 18 rfl) ff_X10_0 lk_X10_9 rfl (fun v7 => ?_)
          refine j_iload_n (q := 32) hx (dc kX10_minus_0 19 rfl) rfl 2 rfl rfl ?_
          refine j_ldL (q := 33) hx (dc kX10_minus_0 20 rfl) rfl (fun v8 => ?_)
          refine j_ldc2 (q := 36) hx kl_X10_18 (dc kX10_minus_0 21 rfl) rfl ?_
          refine j_lxor (q := 37) hx (dc kX10_minus_0 22 rfl) rfl ?_
          refine j_land (q := 38) hx (dc kX10_minus_0 23 rfl) rfl ?_
          refine w_stL (q := 39) hx (dc kX10_minus_0 24 rfl) rfl (fun h9 => ?_)
          refine j_iinc (q := 42) (l2 := [(0, vR x.2.2.2 x0), (1, vR x.2.2.2 x1)]) hx (dc kX10_minus_0 25 rfl) 2 rfl (v := (1 : Int32)) (by decide) (hn 2 (by decide)) [0, 1] rfl ⟨⟨show (0 : Nat) ≠ 2 by decide, Or.inl (show (0 : Nat) + 1 ≠ 2 by decide)⟩, ⟨⟨show (1 : Nat) ≠ 2 by decide, Or.inr (vR_cat _ _)⟩, trivial⟩⟩ rfl ?_
          refine j_goto (q := 2) hx (dc kX10_minus_0 26 rfl) (by decide) ?_
          exact j_back [1, 2, 0] ((x2 + (1 : Int32)), h9) rfl rfl
    exact j_loop (S := (Int32 × Hp)) (lvf := fun s => [(0, vR x.2.2.2 x0), (1, vR x.2.2.2 x1), (2, .int s.1)]) (hpf := fun s => s.2) (f := (fun s : (Int32 × Hp) => mX10_minus_l2f x0 x1 s.1 s.2)) (fun s => hB s.1 s.2) (x2, h)
  unfold mX10_minus
  refine J.ckd fun hk0 => ?_
  refine j_iconst (q := 1) (v := (0 : Int32)) hx (dc kX10_minus_0 0 rfl) (by decide) rfl ?_
  refine j_istore_n (q := 2) (i := 2) (l2 := [(0, vR x.2.2.2 x0), (1, vR x.2.2.2 x1)]) hx (dc kX10_minus_0 1 rfl) rfl (hn 2 (by decide)) [0, 1] rfl ⟨⟨show (0 : Nat) ≠ 2 by decide, Or.inl (show (0 : Nat) + 1 ≠ 2 by decide)⟩, ⟨⟨show (1 : Nat) ≠ 2 by decide, Or.inr (vR_cat _ _)⟩, trivial⟩⟩ rfl ?_
  exact j_sub [1, 2, 0] rfl (hb2 x0 x1 (0 : Int32) h)

set_option maxHeartbeats 4000000 in
set_option maxRecDepth 100000 in
theorem sX11_put (l : Launch) (w : Wd) (x0 : Nat) (x1 : Int32) (x2 : Int32) (h : Hp) (u : Hp) (hK : mX11_put x0 x1 x2 h = some u) : M1 l w mi_X11_put 1 [vR w x0, .int x1, .int x2] h u (none) := by
  refine M1.of (own := RX11) (T := fun _ r => r = u) hK (by decide +kernel) rfl (by first | (simp only [lg_lenR, lg_lenI, lg_lenL, lg_len0]; decide) | decide) (fun x hx hnl hhf hl hw hret hnm hQ h0e => ⟨?_, rfl⟩)
  subst hw
  subst hl
  have hR : Rt x h u (none) (none) := ⟨h0e, hhf, hret, hQ⟩
  have hn : ∀ i, i < 3 → i < x.2.2.1.1.1 := fun i hi => by rw [hnl]; exact hi
  have e0 : lv_args 0 [vR x.2.2.2 x0, .int x1, .int x2] = [(0, vR x.2.2.2 x0), (1, .int x1), (2, .int x2)] := by simp only [lv_argsR, lv_argsI, lv_argsL, lv_args0]
  rw [e0]
  unfold mX11_put
  refine j_iload_n (q := 1) hx (dc kX11_put_0 0 rfl) rfl 1 rfl rfl ?_
  refine j_if_lt (q := 4) (tgt := 14) hx (dc kX11_put_0 1 rfl) (by decide) Iff.rfl rfl ?_ ?_
  · exact r_vW hx hR (dc kX11_put_0 10 rfl)
  · refine j_iload_n (q := 5) hx (dc kX11_put_0 2 rfl) rfl 1 rfl rfl ?_
    refine j_aload_n (q := 6) hx (dc kX11_put_0 3 rfl) rfl 0 rfl rfl ?_
    refine j_alen (q := 7) hx (dc kX11_put_0 4 rfl) rfl (fun v1 => ?_)
    refine j_icmp_geS (q := 10) (tgt := 14) hx (dc kX11_put_0 5 rfl) (by decide) rfl ?_ ?_
    · exact r_vW hx hR (dc kX11_put_0 10 rfl)
    · refine j_aload_n (q := 11) hx (dc kX11_put_0 6 rfl) rfl 0 rfl rfl ?_
      refine j_iload_n (q := 12) hx (dc kX11_put_0 7 rfl) rfl 1 rfl rfl ?_
      refine j_iload_n (q := 13) hx (dc kX11_put_0 8 rfl) rfl 2 rfl rfl ?_
      refine w_stI (q := 14) hx (dc kX11_put_0 9 rfl) rfl (fun h2 => ?_)
      exact r_vW hx hR (dc kX11_put_0 10 rfl)

set_option maxHeartbeats 4000000 in
set_option maxRecDepth 100000 in
theorem sX10_within (l : Launch) (w : Wd) (x0 : Nat) (x1 : Nat) (h : Hp) (u : Int32) (hK : mX10_within x0 x1 h = some u) : M1 l w mi_X10_within 1 [vR w x0, vR w x1] h h (some (.int u)) := by
  refine M1.of (own := RX10) (T := fun _ r => r = u) hK (by decide +kernel) rfl (by first | (simp only [lg_lenR, lg_lenI, lg_lenL, lg_len0]; decide) | decide) (fun x hx hnl hhf hl hw hret hnm hQ h0e => ⟨?_, rfl⟩)
  subst hw
  subst hl
  have hR : Rt x h h (some (.int u)) ((some .boolean)) := ⟨h0e, hhf, hret, hQ⟩
  have hn : ∀ i, i < 3 → i < x.2.2.1.1.1 := fun i hi => by rw [hnl]; exact hi
  have e0 : lv_args 0 [vR x.2.2.2 x0, vR x.2.2.2 x1] = [(0, vR x.2.2.2 x0), (1, vR x.2.2.2 x1)] := by simp only [lv_argsR, lv_argsI, lv_argsL, lv_args0]
  rw [e0]
  have hb2 : ∀ (x0 : Nat) (x1 : Nat) (x2 : Int32), J x 2 [(0, vR x.2.2.2 x0), (1, vR x.2.2.2 x1), (2, .int x2)] [] h (mX10_within_l2 x0 x1 x2 h) (fun r => r = u) := by
    intro x0 x1 x2
    have hB : ∀ (x2 : Int32), J x 2 [(0, vR x.2.2.2 x0), (1, vR x.2.2.2 x1), (2, .int x2)] [] h (mX10_within_l2f x0 x1 h x2) (TL (S := Int32) x 2 (fun s => [(0, vR x.2.2.2 x0), (1, vR x.2.2.2 x1), (2, .int s)]) [] (fun s => h) (fun r => r = u)) := by
      intro x2
      unfold mX10_within_l2f
      refine j_iload_n (q := 3) hx (dc kX10_within_0 2 rfl) rfl 2 rfl rfl ?_
      refine j_aload_n (q := 4) hx (dc kX10_within_0 3 rfl) rfl 0 rfl rfl ?_
      refine w_gR (q := 7) hx (dc kX10_within_0 4 rfl) ff_X10_0 lk_X10_9 rfl (fun v1 => ?_)
      refine j_alen (q := 8) hx (dc kX10_within_0 5 rfl) rfl (fun v2 => ?_)
      refine j_icmp_geS (q := 11) (tgt := 50) hx (dc kX10_within_0 6 rfl) (by decide) rfl ?_ ?_
      · refine j_exit ?_
        refine j_iconst (q := 51) (v := (1 : Int32)) hx (dc kX10_within_0 30 rfl) (by decide) rfl ?_
        exact r_cR hx (Or.inr rfl) hR (dc kX10_within_0 31 rfl)
      · refine j_iload_n (q := 12) hx (dc kX10_within_0 7 rfl) rfl 2 rfl rfl ?_
        refine j_aload_n (q := 13) hx (dc kX10_within_0 8 rfl) rfl 1 rfl rfl ?_
        refine w_gR (q := 16) hx (dc kX10_within_0 9 rfl) ff_X10_0 lk_X10_9 rfl (fun v3 => ?_)
        refine j_alen (q := 17) hx (dc kX10_within_0 10 rfl) rfl (fun v4 => ?_)
        refine j_icmp_geS (q := 20) (tgt := 50) hx (dc kX10_within_0 11 rfl) (by decide) rfl ?_ ?_
        · refine j_exit ?_
          refine j_iconst (q := 51) (v := (1 : Int32)) hx (dc kX10_within_0 30 rfl) (by decide) rfl ?_
          exact r_cR hx (Or.inr rfl) hR (dc kX10_within_0 31 rfl)
        · refine j_aload_n (q := 21) hx (dc kX10_within_0 12 rfl) rfl 0 rfl rfl ?_
          refine w_gR (q := 24) hx (dc kX10_within_0 13 rfl) ff_X10_0 lk_X10_9 rfl (fun v5 => ?_)
          refine j_iload_n (q := 25) hx (dc kX10_within_0 14 rfl) rfl 2 rfl rfl ?_
          refine j_ldL (q := 26) hx (dc kX10_within_0 15 rfl) rfl (fun v6 => ?_)
          refine j_aload_n (q := 27) hx (dc kX10_within_0 16 rfl) rfl 1 rfl rfl ?_
          refine w_gR (q := 30) hx (dc kX10_within_0 17 rfl) ff_X10_0 lk_X10_9 rfl (fun v7 => ?_)
          refine j_iload_n (q := 31) hx (dc kX10_within_0 18 rfl) rfl 2 rfl rfl ?_
          refine j_ldL (q := 32) hx (dc kX10_within_0 19 rfl) rfl (fun v8 => ?_)
          refine j_ldc2 (q := 35) hx kl_X10_18 (dc kX10_within_0 20 rfl) rfl ?_
          refine j_lxor (q := 36) hx (dc kX10_within_0 21 rfl) rfl ?_
          refine j_land (q := 37) hx (dc kX10_within_0 22 rfl) rfl ?_
          refine j_lconst (q := 38) (v := (0 : Int64)) hx (dc kX10_within_0 23 rfl) (by decide) rfl ?_
          refine j_lcmp (q := 39) hx (dc kX10_within_0 24 rfl) rfl ?_
          refine j_if_eq (q := 42) (tgt := 44) hx (dc kX10_within_0 25 rfl) (by decide) Iff.rfl rfl ?_ ?_
          · refine j_iinc (q := 47) (l2 := [(0, vR x.2.2.2 x0), (1, vR x.2.2.2 x1)]) hx (dc kX10_within_0 28 rfl) 2 rfl (v := (1 : Int32)) (by decide) (hn 2 (by decide)) [0, 1] rfl ⟨⟨show (0 : Nat) ≠ 2 by decide, Or.inl (show (0 : Nat) + 1 ≠ 2 by decide)⟩, ⟨⟨show (1 : Nat) ≠ 2 by decide, Or.inr (vR_cat _ _)⟩, trivial⟩⟩ rfl ?_
            refine j_goto (q := 2) hx (dc kX10_within_0 29 rfl) (by decide) ?_
            exact j_back [1, 2, 0] (x2 + (1 : Int32)) rfl rfl
          · refine j_exit ?_
            refine j_iconst (q := 43) (v := (0 : Int32)) hx (dc kX10_within_0 26 rfl) (by decide) rfl ?_
            exact r_cR hx (Or.inl rfl) hR (dc kX10_within_0 27 rfl)
    exact j_loop (S := Int32) (lvf := fun s => [(0, vR x.2.2.2 x0), (1, vR x.2.2.2 x1), (2, .int s)]) (hpf := fun s => h) (f := (fun s : Int32 => mX10_within_l2f x0 x1 h s)) (fun s => hB s) x2
  unfold mX10_within
  refine J.ckd fun hk0 => ?_
  refine j_iconst (q := 1) (v := (0 : Int32)) hx (dc kX10_within_0 0 rfl) (by decide) rfl ?_
  refine j_istore_n (q := 2) (i := 2) (l2 := [(0, vR x.2.2.2 x0), (1, vR x.2.2.2 x1)]) hx (dc kX10_within_0 1 rfl) rfl (hn 2 (by decide)) [0, 1] rfl ⟨⟨show (0 : Nat) ≠ 2 by decide, Or.inl (show (0 : Nat) + 1 ≠ 2 by decide)⟩, ⟨⟨show (1 : Nat) ≠ 2 by decide, Or.inr (vR_cat _ _)⟩, trivial⟩⟩ rfl ?_
  exact j_sub [1, 2, 0] rfl (hb2 x0 x1 (0 : Int32))

set_option maxHeartbeats 4000000 in
set_option maxRecDepth 100000 in
theorem sX10_meets (l : Launch) (w : Wd) (x0 : Nat) (x1 : Nat) (h : Hp) (u : Int32) (hK : mX10_meets x0 x1 h = some u) : M1 l w mi_X10_meets 1 [vR w x0, vR w x1] h h (some (.int u)) := by
  refine M1.of (own := RX10) (T := fun _ r => r = u) hK (by decide +kernel) rfl (by first | (simp only [lg_lenR, lg_lenI, lg_lenL, lg_len0]; decide) | decide) (fun x hx hnl hhf hl hw hret hnm hQ h0e => ⟨?_, rfl⟩)
  subst hw
  subst hl
  have hR : Rt x h h (some (.int u)) ((some .boolean)) := ⟨h0e, hhf, hret, hQ⟩
  have hn : ∀ i, i < 3 → i < x.2.2.1.1.1 := fun i hi => by rw [hnl]; exact hi
  have e0 : lv_args 0 [vR x.2.2.2 x0, vR x.2.2.2 x1] = [(0, vR x.2.2.2 x0), (1, vR x.2.2.2 x1)] := by simp only [lv_argsR, lv_argsI, lv_argsL, lv_args0]
  rw [e0]
  have hb2 : ∀ (x0 : Nat) (x1 : Nat) (x2 : Int32), J x 2 [(0, vR x.2.2.2 x0), (1, vR x.2.2.2 x1), (2, .int x2)] [] h (mX10_meets_l2 x0 x1 x2 h) (fun r => r = u) := by
    intro x0 x1 x2
    have hB : ∀ (x2 : Int32), J x 2 [(0, vR x.2.2.2 x0), (1, vR x.2.2.2 x1), (2, .int x2)] [] h (mX10_meets_l2f x0 x1 h x2) (TL (S := Int32) x 2 (fun s => [(0, vR x.2.2.2 x0), (1, vR x.2.2.2 x1), (2, .int s)]) [] (fun s => h) (fun r => r = u)) := by
      intro x2
      unfold mX10_meets_l2f
      refine j_iload_n (q := 3) hx (dc kX10_meets_0 2 rfl) rfl 2 rfl rfl ?_
      refine j_aload_n (q := 4) hx (dc kX10_meets_0 3 rfl) rfl 0 rfl rfl ?_
      refine w_gR (q := 7) hx (dc kX10_meets_0 4 rfl) ff_X10_0 lk_X10_9 rfl (fun v1 => ?_)
      refine j_alen (q := 8) hx (dc kX10_meets_0 5 rfl) rfl (fun v2 => ?_)
      refine j_icmp_geS (q := 11) (tgt := 46) hx (dc kX10_meets_0 6 rfl) (by decide) rfl ?_ ?_
      · refine j_exit ?_
        refine j_iconst (q := 47) (v := (0 : Int32)) hx (dc kX10_meets_0 28 rfl) (by decide) rfl ?_
        exact r_cR hx (Or.inl rfl) hR (dc kX10_meets_0 29 rfl)
      · refine j_iload_n (q := 12) hx (dc kX10_meets_0 7 rfl) rfl 2 rfl rfl ?_
        refine j_aload_n (q := 13) hx (dc kX10_meets_0 8 rfl) rfl 1 rfl rfl ?_
        refine w_gR (q := 16) hx (dc kX10_meets_0 9 rfl) ff_X10_0 lk_X10_9 rfl (fun v3 => ?_)
        refine j_alen (q := 17) hx (dc kX10_meets_0 10 rfl) rfl (fun v4 => ?_)
        refine j_icmp_geS (q := 20) (tgt := 46) hx (dc kX10_meets_0 11 rfl) (by decide) rfl ?_ ?_
        · refine j_exit ?_
          refine j_iconst (q := 47) (v := (0 : Int32)) hx (dc kX10_meets_0 28 rfl) (by decide) rfl ?_
          exact r_cR hx (Or.inl rfl) hR (dc kX10_meets_0 29 rfl)
        · refine j_aload_n (q := 21) hx (dc kX10_meets_0 12 rfl) rfl 0 rfl rfl ?_
          refine w_gR (q := 24) hx (dc kX10_meets_0 13 rfl) ff_X10_0 lk_X10_9 rfl (fun v5 => ?_)
          refine j_iload_n (q := 25) hx (dc kX10_meets_0 14 rfl) rfl 2 rfl rfl ?_
          refine j_ldL (q := 26) hx (dc kX10_meets_0 15 rfl) rfl (fun v6 => ?_)
          refine j_aload_n (q := 27) hx (dc kX10_meets_0 16 rfl) rfl 1 rfl rfl ?_
          refine w_gR (q := 30) hx (dc kX10_meets_0 17 rfl) ff_X10_0 lk_X10_9 rfl (fun v7 => ?_)
          refine j_iload_n (q := 31) hx (dc kX10_meets_0 18 rfl) rfl 2 rfl rfl ?_
          refine j_ldL (q := 32) hx (dc kX10_meets_0 19 rfl) rfl (fun v8 => ?_)
          refine j_land (q := 33) hx (dc kX10_meets_0 20 rfl) rfl ?_
          refine j_lconst (q := 34) (v := (0 : Int64)) hx (dc kX10_meets_0 21 rfl) (by decide) rfl ?_
          refine j_lcmp (q := 35) hx (dc kX10_meets_0 22 rfl) rfl ?_
          refine j_if_eq (q := 38) (tgt := 40) hx (dc kX10_meets_0 23 rfl) (by decide) Iff.rfl rfl ?_ ?_
          · refine j_iinc (q := 43) (l2 := [(0, vR x.2.2.2 x0), (1, vR x.2.2.2 x1)]) hx (dc kX10_meets_0 26 rfl) 2 rfl (v := (1 : Int32)) (by decide) (hn 2 (by decide)) [0, 1] rfl ⟨⟨show (0 : Nat) ≠ 2 by decide, Or.inl (show (0 : Nat) + 1 ≠ 2 by decide)⟩, ⟨⟨show (1 : Nat) ≠ 2 by decide, Or.inr (vR_cat _ _)⟩, trivial⟩⟩ rfl ?_
            refine j_goto (q := 2) hx (dc kX10_meets_0 27 rfl) (by decide) ?_
            exact j_back [1, 2, 0] (x2 + (1 : Int32)) rfl rfl
          · refine j_exit ?_
            refine j_iconst (q := 39) (v := (1 : Int32)) hx (dc kX10_meets_0 24 rfl) (by decide) rfl ?_
            exact r_cR hx (Or.inr rfl) hR (dc kX10_meets_0 25 rfl)
    exact j_loop (S := Int32) (lvf := fun s => [(0, vR x.2.2.2 x0), (1, vR x.2.2.2 x1), (2, .int s)]) (hpf := fun s => h) (f := (fun s : Int32 => mX10_meets_l2f x0 x1 h s)) (fun s => hB s) x2
  unfold mX10_meets
  refine J.ckd fun hk0 => ?_
  refine j_iconst (q := 1) (v := (0 : Int32)) hx (dc kX10_meets_0 0 rfl) (by decide) rfl ?_
  refine j_istore_n (q := 2) (i := 2) (l2 := [(0, vR x.2.2.2 x0), (1, vR x.2.2.2 x1)]) hx (dc kX10_meets_0 1 rfl) rfl (hn 2 (by decide)) [0, 1] rfl ⟨⟨show (0 : Nat) ≠ 2 by decide, Or.inl (show (0 : Nat) + 1 ≠ 2 by decide)⟩, ⟨⟨show (1 : Nat) ≠ 2 by decide, Or.inr (vR_cat _ _)⟩, trivial⟩⟩ rfl ?_
  exact j_sub [1, 2, 0] rfl (hb2 x0 x1 (0 : Int32))

set_option maxHeartbeats 4000000 in
set_option maxRecDepth 100000 in
theorem sX10_holds (l : Launch) (w : Wd) (x0 : Nat) (x1 : Int32) (h : Hp) (u : Int32) (hK : mX10_holds x0 x1 h = some u) : M1 l w mi_X10_holds 1 [vR w x0, .int x1] h h (some (.int u)) := by
  refine M1.of (own := RX10) (T := fun _ r => r = u) hK (by decide +kernel) rfl (by first | (simp only [lg_lenR, lg_lenI, lg_lenL, lg_len0]; decide) | decide) (fun x hx hnl hhf hl hw hret hnm hQ h0e => ⟨?_, rfl⟩)
  subst hw
  subst hl
  have hR : Rt x h h (some (.int u)) ((some .boolean)) := ⟨h0e, hhf, hret, hQ⟩
  have hn : ∀ i, i < 3 → i < x.2.2.1.1.1 := fun i hi => by rw [hnl]; exact hi
  have e0 : lv_args 0 [vR x.2.2.2 x0, .int x1] = [(0, vR x.2.2.2 x0), (1, .int x1)] := by simp only [lv_argsR, lv_argsI, lv_argsL, lv_args0]
  rw [e0]
  unfold mX10_holds
  refine J.ckd fun hk0 => ?_
  refine j_iload_n (q := 1) hx (dc kX10_holds_0 0 rfl) rfl 1 rfl rfl ?_
  refine j_bipush (q := 3) (v := (6 : Int32)) hx (dc kX10_holds_0 1 rfl) (by decide) rfl ?_
  refine j_ishr (q := 4) hx (dc kX10_holds_0 2 rfl) rfl ?_
  refine j_istore_n (q := 5) (i := 2) (l2 := [(0, vR x.2.2.2 x0), (1, .int x1)]) hx (dc kX10_holds_0 3 rfl) rfl (hn 2 (by decide)) [0, 1] rfl ⟨⟨show (0 : Nat) ≠ 2 by decide, Or.inl (show (0 : Nat) + 1 ≠ 2 by decide)⟩, ⟨⟨show (1 : Nat) ≠ 2 by decide, Or.inr rfl⟩, trivial⟩⟩ rfl ?_
  refine j_iload_n (q := 6) hx (dc kX10_holds_0 4 rfl) rfl 0 rfl rfl ?_
  refine j_if_lt (q := 9) (tgt := 40) hx (dc kX10_holds_0 5 rfl) (by decide) Iff.rfl rfl ?_ ?_
  · refine j_iconst (q := 41) (v := (0 : Int32)) hx (dc kX10_holds_0 26 rfl) (by decide) rfl ?_
    exact r_cR hx (Or.inl rfl) hR (dc kX10_holds_0 27 rfl)
  · refine j_iload_n (q := 10) hx (dc kX10_holds_0 6 rfl) rfl 0 rfl rfl ?_
    refine j_aload_n (q := 11) hx (dc kX10_holds_0 7 rfl) rfl 1 rfl rfl ?_
    refine w_gR (q := 14) hx (dc kX10_holds_0 8 rfl) ff_X10_0 lk_X10_9 rfl (fun v1 => ?_)
    refine j_alen (q := 15) hx (dc kX10_holds_0 9 rfl) rfl (fun v2 => ?_)
    refine j_icmp_geS (q := 18) (tgt := 40) hx (dc kX10_holds_0 10 rfl) (by decide) rfl ?_ ?_
    · refine j_iconst (q := 41) (v := (0 : Int32)) hx (dc kX10_holds_0 26 rfl) (by decide) rfl ?_
      exact r_cR hx (Or.inl rfl) hR (dc kX10_holds_0 27 rfl)
    · refine j_aload_n (q := 19) hx (dc kX10_holds_0 11 rfl) rfl 1 rfl rfl ?_
      refine w_gR (q := 22) hx (dc kX10_holds_0 12 rfl) ff_X10_0 lk_X10_9 rfl (fun v3 => ?_)
      refine j_iload_n (q := 23) hx (dc kX10_holds_0 13 rfl) rfl 0 rfl rfl ?_
      refine j_ldL (q := 24) hx (dc kX10_holds_0 14 rfl) rfl (fun v4 => ?_)
      refine j_iload_n (q := 25) hx (dc kX10_holds_0 15 rfl) rfl 2 rfl rfl ?_
      refine j_bipush (q := 27) (v := (63 : Int32)) hx (dc kX10_holds_0 16 rfl) (by decide) rfl ?_
      refine j_iand (q := 28) hx (dc kX10_holds_0 17 rfl) rfl ?_
      refine j_lushr (q := 29) hx (dc kX10_holds_0 18 rfl) rfl ?_
      refine j_lconst (q := 30) (v := (1 : Int64)) hx (dc kX10_holds_0 19 rfl) (by decide) rfl ?_
      refine j_land (q := 31) hx (dc kX10_holds_0 20 rfl) rfl ?_
      refine j_lconst (q := 32) (v := (0 : Int64)) hx (dc kX10_holds_0 21 rfl) (by decide) rfl ?_
      refine j_lcmp (q := 33) hx (dc kX10_holds_0 22 rfl) rfl ?_
      refine j_if_eq (q := 36) (tgt := 40) hx (dc kX10_holds_0 23 rfl) (by decide) Iff.rfl rfl ?_ ?_
      · refine j_iconst (q := 41) (v := (0 : Int32)) hx (dc kX10_holds_0 26 rfl) (by decide) rfl ?_
        exact r_cR hx (Or.inl rfl) hR (dc kX10_holds_0 27 rfl)
      · refine j_iconst (q := 37) (v := (1 : Int32)) hx (dc kX10_holds_0 24 rfl) (by decide) rfl ?_
        refine j_goto (q := 41) hx (dc kX10_holds_0 25 rfl) (by decide) ?_
        exact r_cR hx (Or.inr rfl) hR (dc kX10_holds_0 27 rfl)

set_option maxHeartbeats 4000000 in
set_option maxRecDepth 100000 in
theorem sX5_clear (l : Launch) (w : Wd) (x0 : Nat) (h : Hp) (u : Hp) (hK : mX5_clear x0 h = some u) : M1 l w mi_X5_clear 1 [vR w x0] h u (none) := by
  refine M1.of (own := RX5) (T := fun _ r => r = u) hK (by decide +kernel) rfl (by first | (simp only [lg_lenR, lg_lenI, lg_lenL, lg_len0]; decide) | decide) (fun x hx hnl hhf hl hw hret hnm hQ h0e => ⟨?_, rfl⟩)
  subst hw
  subst hl
  have hR : Rt x h u (none) (none) := ⟨h0e, hhf, hret, hQ⟩
  have hn : ∀ i, i < 1 → i < x.2.2.1.1.1 := fun i hi => by rw [hnl]; exact hi
  have e0 : lv_args 0 [vR x.2.2.2 x0] = [(0, vR x.2.2.2 x0)] := by simp only [lv_argsR, lv_argsI, lv_argsL, lv_args0]
  rw [e0]
  unfold mX5_clear
  refine J.ckd fun hk0 => ?_
  refine j_aload_n (q := 1) hx (dc kX5_clear_0 0 rfl) rfl 0 rfl rfl ?_
  refine j_iconst (q := 2) (v := (0 : Int32)) hx (dc kX5_clear_0 1 rfl) (by decide) rfl ?_
  refine w_sI (q := 5) hx (dc kX5_clear_0 2 rfl) ff_X5_0 rfl lk_X5_30 (Or.inl rfl) rfl (fun h1 => ?_)
  refine j_aload_n (q := 6) hx (dc kX5_clear_0 3 rfl) rfl 0 rfl rfl ?_
  refine j_iconst (q := 7) (v := (0 : Int32)) hx (dc kX5_clear_0 4 rfl) (by decide) rfl ?_
  refine w_sZ (q := 10) hx (dc kX5_clear_0 5 rfl) ff_X5_1 rfl lk_X5_34 (Or.inl rfl) rfl (fun h2 => ?_)
  refine j_aload_n (q := 11) hx (dc kX5_clear_0 6 rfl) rfl 0 rfl rfl ?_
  refine j_iconst (q := 12) (v := (0 : Int32)) hx (dc kX5_clear_0 7 rfl) (by decide) rfl ?_
  refine w_sI (q := 15) hx (dc kX5_clear_0 8 rfl) ff_X5_2 rfl lk_X5_38 (Or.inl rfl) rfl (fun h3 => ?_)
  refine j_aload_n (q := 16) hx (dc kX5_clear_0 9 rfl) rfl 0 rfl rfl ?_
  refine j_iconst (q := 17) (v := (0 : Int32)) hx (dc kX5_clear_0 10 rfl) (by decide) rfl ?_
  refine w_sI (q := 20) hx (dc kX5_clear_0 11 rfl) ff_X5_3 rfl lk_X5_41 (Or.inl rfl) rfl (fun h4 => ?_)
  refine j_aload_n (q := 21) hx (dc kX5_clear_0 12 rfl) rfl 0 rfl rfl ?_
  refine j_iconst (q := 22) (v := (0 : Int32)) hx (dc kX5_clear_0 13 rfl) (by decide) rfl ?_
  refine w_sI (q := 25) hx (dc kX5_clear_0 14 rfl) ff_X5_4 rfl lk_X5_44 (Or.inl rfl) rfl (fun h5 => ?_)
  refine j_aload_n (q := 26) hx (dc kX5_clear_0 15 rfl) rfl 0 rfl rfl ?_
  refine j_iconst (q := 27) (v := (0 : Int32)) hx (dc kX5_clear_0 16 rfl) (by decide) rfl ?_
  refine w_sI (q := 30) hx (dc kX5_clear_0 17 rfl) ff_X5_5 rfl lk_X5_47 (Or.inl rfl) rfl (fun h6 => ?_)
  refine j_aload_n (q := 31) hx (dc kX5_clear_0 18 rfl) rfl 0 rfl rfl ?_
  refine j_iconst (q := 32) (v := (0 : Int32)) hx (dc kX5_clear_0 19 rfl) (by decide) rfl ?_
  refine w_sI (q := 35) hx (dc kX5_clear_0 20 rfl) ff_X5_6 rfl lk_X5_50 (Or.inl rfl) rfl (fun h7 => ?_)
  refine j_aload_n (q := 36) hx (dc kX5_clear_0 21 rfl) rfl 0 rfl rfl ?_
  refine j_iconst (q := 37) (v := (0 : Int32)) hx (dc kX5_clear_0 22 rfl) (by decide) rfl ?_
  refine w_sI (q := 40) hx (dc kX5_clear_0 23 rfl) ff_X5_7 rfl lk_X5_53 (Or.inl rfl) rfl (fun h8 => ?_)
  refine j_aload_n (q := 41) hx (dc kX5_clear_0 24 rfl) rfl 0 rfl rfl ?_
  refine j_iconst (q := 42) (v := (0 : Int32)) hx (dc kX5_clear_0 25 rfl) (by decide) rfl ?_
  refine w_sI (q := 45) hx (dc kX5_clear_0 26 rfl) ff_X5_8 rfl lk_X5_56 (Or.inl rfl) rfl (fun h9 => ?_)
  exact r_vW hx hR (dc kX5_clear_0 27 rfl)

set_option maxHeartbeats 4000000 in
set_option maxRecDepth 100000 in
theorem sJ13_bitCount_95d88 (l : Launch) (w : Wd) (x0 : Int64) (h : Hp) (u : Int32) (hK : mJ13_bitCount_95d88 x0 = some u) : M1 l w mi_J13_bitCount_95d88 1 [.long x0] h h (some (.int u)) := by
  refine M1.of (own := RJ13) (T := fun _ r => r = u) hK (by decide +kernel) rfl (by first | (simp only [lg_lenR, lg_lenI, lg_lenL, lg_len0]; decide) | decide) (fun x hx hnl hhf hl hw hret hnm hQ h0e => ⟨?_, rfl⟩)
  subst hw
  subst hl
  have hR : Rt x h h (some (.int u)) ((some .int)) := ⟨h0e, hhf, hret, hQ⟩
  have hn : ∀ i, i < 2 → i < x.2.2.1.1.1 := fun i hi => by rw [hnl]; exact hi
  have e0 : lv_args 0 [.long x0] = [(0, .long x0)] := by simp only [lv_argsR, lv_argsI, lv_argsL, lv_args0]
  rw [e0]
  have hb55 : ∀ (x0 : Int64), J x 55 [(0, .long x0)] [] h (mJ13_bitCount_95d88_b55 x0) (fun r => r = u) := by
    intro x0
    unfold mJ13_bitCount_95d88_b55
    refine j_lload_n (q := 56) hx (dc kJ13_bitCount_95d88_0 44 rfl) rfl 0 rfl rfl ?_
    refine j_l2i (q := 57) hx (dc kJ13_bitCount_95d88_0 45 rfl) rfl ?_
    refine j_bipush (q := 59) (v := (127 : Int32)) hx (dc kJ13_bitCount_95d88_0 46 rfl) (by decide) rfl ?_
    refine j_iand (q := 60) hx (dc kJ13_bitCount_95d88_0 47 rfl) rfl ?_
    exact r_iR hx hR (dc kJ13_bitCount_95d88_0 48 rfl)
  have hb41 : ∀ (x0 : Int64), J x 41 [(0, .long x0)] [] h (mJ13_bitCount_95d88_b41 x0) (fun r => r = u) := by
    intro x0
    unfold mJ13_bitCount_95d88_b41
    refine j_lload_n (q := 42) hx (dc kJ13_bitCount_95d88_0 32 rfl) rfl 0 rfl rfl ?_
    refine j_lload_n (q := 43) hx (dc kJ13_bitCount_95d88_0 33 rfl) rfl 0 rfl rfl ?_
    refine j_bipush (q := 45) (v := (16 : Int32)) hx (dc kJ13_bitCount_95d88_0 34 rfl) (by decide) rfl ?_
    refine j_lushr (q := 46) hx (dc kJ13_bitCount_95d88_0 35 rfl) rfl ?_
    refine j_ladd (q := 47) hx (dc kJ13_bitCount_95d88_0 36 rfl) rfl ?_
    refine j_lstore_n (q := 48) (i := 0) (l2 := []) hx (dc kJ13_bitCount_95d88_0 37 rfl) rfl (hn 1 (by decide)) [] rfl trivial (fun q hq => by cases hq) rfl ?_
    refine j_lload_n (q := 49) hx (dc kJ13_bitCount_95d88_0 38 rfl) rfl 0 rfl rfl ?_
    refine j_lload_n (q := 50) hx (dc kJ13_bitCount_95d88_0 39 rfl) rfl 0 rfl rfl ?_
    refine j_bipush (q := 52) (v := (32 : Int32)) hx (dc kJ13_bitCount_95d88_0 40 rfl) (by decide) rfl ?_
    refine j_lushr (q := 53) hx (dc kJ13_bitCount_95d88_0 41 rfl) rfl ?_
    refine j_ladd (q := 54) hx (dc kJ13_bitCount_95d88_0 42 rfl) rfl ?_
    refine j_lstore_n (q := 55) (i := 0) (l2 := []) hx (dc kJ13_bitCount_95d88_0 43 rfl) rfl (hn 1 (by decide)) [] rfl trivial (fun q hq => by cases hq) rfl ?_
    exact hb55 ((x0 + (ushrL x0 (16 : Int32))) + (ushrL (x0 + (ushrL x0 (16 : Int32))) (32 : Int32)))
  have hb24 : ∀ (x0 : Int64), J x 24 [(0, .long x0)] [] h (mJ13_bitCount_95d88_b24 x0) (fun r => r = u) := by
    intro x0
    unfold mJ13_bitCount_95d88_b24
    refine j_lload_n (q := 25) hx (dc kJ13_bitCount_95d88_0 18 rfl) rfl 0 rfl rfl ?_
    refine j_lload_n (q := 26) hx (dc kJ13_bitCount_95d88_0 19 rfl) rfl 0 rfl rfl ?_
    refine j_iconst (q := 27) (v := (4 : Int32)) hx (dc kJ13_bitCount_95d88_0 20 rfl) (by decide) rfl ?_
    refine j_lushr (q := 28) hx (dc kJ13_bitCount_95d88_0 21 rfl) rfl ?_
    refine j_ladd (q := 29) hx (dc kJ13_bitCount_95d88_0 22 rfl) rfl ?_
    refine j_ldc2 (q := 32) hx kl_J13_318 (dc kJ13_bitCount_95d88_0 23 rfl) rfl ?_
    refine j_land (q := 33) hx (dc kJ13_bitCount_95d88_0 24 rfl) rfl ?_
    refine j_lstore_n (q := 34) (i := 0) (l2 := []) hx (dc kJ13_bitCount_95d88_0 25 rfl) rfl (hn 1 (by decide)) [] rfl trivial (fun q hq => by cases hq) rfl ?_
    refine j_lload_n (q := 35) hx (dc kJ13_bitCount_95d88_0 26 rfl) rfl 0 rfl rfl ?_
    refine j_lload_n (q := 36) hx (dc kJ13_bitCount_95d88_0 27 rfl) rfl 0 rfl rfl ?_
    refine j_bipush (q := 38) (v := (8 : Int32)) hx (dc kJ13_bitCount_95d88_0 28 rfl) (by decide) rfl ?_
    refine j_lushr (q := 39) hx (dc kJ13_bitCount_95d88_0 29 rfl) rfl ?_
    refine j_ladd (q := 40) hx (dc kJ13_bitCount_95d88_0 30 rfl) rfl ?_
    refine j_lstore_n (q := 41) (i := 0) (l2 := []) hx (dc kJ13_bitCount_95d88_0 31 rfl) rfl (hn 1 (by decide)) [] rfl trivial (fun q hq => by cases hq) rfl ?_
    exact hb41 (((x0 + (ushrL x0 (4 : Int32))) &&& (1085102592571150095 : Int64)) + (ushrL ((x0 + (ushrL x0 (4 : Int32))) &&& (1085102592571150095 : Int64)) (8 : Int32)))
  unfold mJ13_bitCount_95d88
  refine j_lload_n (q := 1) hx (dc kJ13_bitCount_95d88_0 0 rfl) rfl 0 rfl rfl ?_
  refine j_lload_n (q := 2) hx (dc kJ13_bitCount_95d88_0 1 rfl) rfl 0 rfl rfl ?_
  refine j_iconst (q := 3) (v := (1 : Int32)) hx (dc kJ13_bitCount_95d88_0 2 rfl) (by decide) rfl ?_
  refine j_lushr (q := 4) hx (dc kJ13_bitCount_95d88_0 3 rfl) rfl ?_
  refine j_ldc2 (q := 7) hx kl_J13_314 (dc kJ13_bitCount_95d88_0 4 rfl) rfl ?_
  refine j_land (q := 8) hx (dc kJ13_bitCount_95d88_0 5 rfl) rfl ?_
  refine j_lsub (q := 9) hx (dc kJ13_bitCount_95d88_0 6 rfl) rfl ?_
  refine j_lstore_n (q := 10) (i := 0) (l2 := []) hx (dc kJ13_bitCount_95d88_0 7 rfl) rfl (hn 1 (by decide)) [] rfl trivial (fun q hq => by cases hq) rfl ?_
  refine j_lload_n (q := 11) hx (dc kJ13_bitCount_95d88_0 8 rfl) rfl 0 rfl rfl ?_
  refine j_ldc2 (q := 14) hx kl_J13_316 (dc kJ13_bitCount_95d88_0 9 rfl) rfl ?_
  refine j_land (q := 15) hx (dc kJ13_bitCount_95d88_0 10 rfl) rfl ?_
  refine j_lload_n (q := 16) hx (dc kJ13_bitCount_95d88_0 11 rfl) rfl 0 rfl rfl ?_
  refine j_iconst (q := 17) (v := (2 : Int32)) hx (dc kJ13_bitCount_95d88_0 12 rfl) (by decide) rfl ?_
  refine j_lushr (q := 18) hx (dc kJ13_bitCount_95d88_0 13 rfl) rfl ?_
  refine j_ldc2 (q := 21) hx kl_J13_316 (dc kJ13_bitCount_95d88_0 14 rfl) rfl ?_
  refine j_land (q := 22) hx (dc kJ13_bitCount_95d88_0 15 rfl) rfl ?_
  refine j_ladd (q := 23) hx (dc kJ13_bitCount_95d88_0 16 rfl) rfl ?_
  refine j_lstore_n (q := 24) (i := 0) (l2 := []) hx (dc kJ13_bitCount_95d88_0 17 rfl) rfl (hn 1 (by decide)) [] rfl trivial (fun q hq => by cases hq) rfl ?_
  exact hb24 (((x0 - ((ushrL x0 (1 : Int32)) &&& (6148914691236517205 : Int64))) &&& (3689348814741910323 : Int64)) + ((ushrL (x0 - ((ushrL x0 (1 : Int32)) &&& (6148914691236517205 : Int64))) (2 : Int32)) &&& (3689348814741910323 : Int64)))

set_option maxHeartbeats 4000000 in
set_option maxRecDepth 100000 in
theorem sX10_size (l : Launch) (w : Wd) (x0 : Nat) (h : Hp) (u : Int32) (hK : mX10_size x0 h = some u) : M1 l w mi_X10_size 2 [vR w x0] h h (some (.int u)) := by
  refine M1.of (own := RX10) (T := fun _ r => r = u) hK (by decide +kernel) rfl (by first | (simp only [lg_lenR, lg_lenI, lg_lenL, lg_len0]; decide) | decide) (fun x hx hnl hhf hl hw hret hnm hQ h0e => ⟨?_, rfl⟩)
  subst hw
  subst hl
  have hR : Rt x h h (some (.int u)) ((some .int)) := ⟨h0e, hhf, hret, hQ⟩
  have hn : ∀ i, i < 3 → i < x.2.2.1.1.1 := fun i hi => by rw [hnl]; exact hi
  have e0 : lv_args 0 [vR x.2.2.2 x0] = [(0, vR x.2.2.2 x0)] := by simp only [lv_argsR, lv_argsI, lv_argsL, lv_args0]
  rw [e0]
  have hb4 : ∀ (x0 : Nat) (x1 : Int32) (x2 : Int32), J x 4 [(0, vR x.2.2.2 x0), (1, .int x1), (2, .int x2)] [] h (mX10_size_l4 x0 x1 x2 h) (fun r => r = u) := by
    intro x0 x1 x2
    have hB : ∀ (x1 : Int32) (x2 : Int32), J x 4 [(0, vR x.2.2.2 x0), (1, .int x1), (2, .int x2)] [] h (mX10_size_l4f x0 h x1 x2) (TL (S := (Int32 × Int32)) x 4 (fun s => [(0, vR x.2.2.2 x0), (1, .int s.1), (2, .int s.2)]) [] (fun s => h) (fun r => r = u)) := by
      intro x1 x2
      unfold mX10_size_l4f
      refine j_iload_n (q := 5) hx (dc kX10_size_0 4 rfl) rfl 2 rfl rfl ?_
      refine j_aload_n (q := 6) hx (dc kX10_size_0 5 rfl) rfl 0 rfl rfl ?_
      refine w_gR (q := 9) hx (dc kX10_size_0 6 rfl) ff_X10_0 lk_X10_9 rfl (fun v1 => ?_)
      refine j_alen (q := 10) hx (dc kX10_size_0 7 rfl) rfl (fun v2 => ?_)
      refine j_icmp_geS (q := 13) (tgt := 31) hx (dc kX10_size_0 8 rfl) (by decide) rfl ?_ ?_
      · refine j_exit ?_
        refine j_iload_n (q := 32) hx (dc kX10_size_0 19 rfl) rfl 1 rfl rfl ?_
        exact r_iR hx hR (dc kX10_size_0 20 rfl)
      · refine j_iload_n (q := 14) hx (dc kX10_size_0 9 rfl) rfl 1 rfl rfl ?_
        refine j_aload_n (q := 15) hx (dc kX10_size_0 10 rfl) rfl 0 rfl rfl ?_
        refine w_gR (q := 18) hx (dc kX10_size_0 11 rfl) ff_X10_0 lk_X10_9 rfl (fun v3 => ?_)
        refine j_iload_n (q := 19) hx (dc kX10_size_0 12 rfl) rfl 2 rfl rfl ?_
        refine j_ldL (q := 20) hx (dc kX10_size_0 13 rfl) rfl (fun v4 => ?_)
        refine w_cSIR (q := 23) (As := [.long v4]) (st := [.int x1]) hx (dc kX10_size_0 14 rfl) (cI _ my_J13_bitCount_95d88 lm_X10_36 (by decide)) st_J13_bitCount_95d88 rfl (fun u hu => sJ13_bitCount_95d88 _ _ _ _ _ hu) (sum_le (sum_I sum_nil) (by decide)) rfl (fun v5 => ?_)
        refine j_iadd (q := 24) hx (dc kX10_size_0 15 rfl) rfl ?_
        refine j_istore_n (q := 25) (i := 1) (l2 := [(0, vR x.2.2.2 x0), (2, .int x2)]) hx (dc kX10_size_0 16 rfl) rfl (hn 1 (by decide)) [0, 2] rfl ⟨⟨show (0 : Nat) ≠ 1 by decide, Or.inr (vR_cat _ _)⟩, ⟨⟨show (2 : Nat) ≠ 1 by decide, Or.inl (show (2 : Nat) + 1 ≠ 1 by decide)⟩, trivial⟩⟩ rfl ?_
        refine j_iinc (q := 28) (l2 := [(1, .int (x1 + v5)), (0, vR x.2.2.2 x0)]) hx (dc kX10_size_0 17 rfl) 2 rfl (v := (1 : Int32)) (by decide) (hn 2 (by decide)) [0, 1] rfl ⟨⟨show (1 : Nat) ≠ 2 by decide, Or.inr rfl⟩, ⟨⟨show (0 : Nat) ≠ 2 by decide, Or.inl (show (0 : Nat) + 1 ≠ 2 by decide)⟩, trivial⟩⟩ rfl ?_
        refine j_goto (q := 4) hx (dc kX10_size_0 18 rfl) (by decide) ?_
        exact j_back [2, 1, 0] ((x1 + v5), (x2 + (1 : Int32))) rfl rfl
    exact j_loop (S := (Int32 × Int32)) (lvf := fun s => [(0, vR x.2.2.2 x0), (1, .int s.1), (2, .int s.2)]) (hpf := fun s => h) (f := (fun s : (Int32 × Int32) => mX10_size_l4f x0 h s.1 s.2)) (fun s => hB s.1 s.2) (x1, x2)
  unfold mX10_size
  refine J.ckd fun hk0 => ?_
  refine j_iconst (q := 1) (v := (0 : Int32)) hx (dc kX10_size_0 0 rfl) (by decide) rfl ?_
  refine j_istore_n (q := 2) (i := 1) (l2 := [(0, vR x.2.2.2 x0)]) hx (dc kX10_size_0 1 rfl) rfl (hn 1 (by decide)) [0] rfl ⟨⟨show (0 : Nat) ≠ 1 by decide, Or.inr (vR_cat _ _)⟩, trivial⟩ rfl ?_
  refine j_iconst (q := 3) (v := (0 : Int32)) hx (dc kX10_size_0 2 rfl) (by decide) rfl ?_
  refine j_istore_n (q := 4) (i := 2) (l2 := [(1, .int (0 : Int32)), (0, vR x.2.2.2 x0)]) hx (dc kX10_size_0 3 rfl) rfl (hn 2 (by decide)) [0, 1] rfl ⟨⟨show (1 : Nat) ≠ 2 by decide, Or.inr rfl⟩, ⟨⟨show (0 : Nat) ≠ 2 by decide, Or.inl (show (0 : Nat) + 1 ≠ 2 by decide)⟩, trivial⟩⟩ rfl ?_
  exact j_sub [2, 1, 0] rfl (hb4 x0 (0 : Int32) (0 : Int32))

set_option maxHeartbeats 4000000 in
set_option maxRecDepth 100000 in
theorem sX10_isEmpty (l : Launch) (w : Wd) (x0 : Nat) (h : Hp) (u : Int32) (hK : mX10_isEmpty x0 h = some u) : M1 l w mi_X10_isEmpty 3 [vR w x0] h h (some (.int u)) := by
  refine M1.of (own := RX10) (T := fun _ r => r = u) hK (by decide +kernel) rfl (by first | (simp only [lg_lenR, lg_lenI, lg_lenL, lg_len0]; decide) | decide) (fun x hx hnl hhf hl hw hret hnm hQ h0e => ⟨?_, rfl⟩)
  subst hw
  subst hl
  have hR : Rt x h h (some (.int u)) ((some .boolean)) := ⟨h0e, hhf, hret, hQ⟩
  have hn : ∀ i, i < 1 → i < x.2.2.1.1.1 := fun i hi => by rw [hnl]; exact hi
  have e0 : lv_args 0 [vR x.2.2.2 x0] = [(0, vR x.2.2.2 x0)] := by simp only [lv_argsR, lv_argsI, lv_argsL, lv_args0]
  rw [e0]
  unfold mX10_isEmpty
  refine J.ckd fun hk0 => ?_
  refine j_aload_n (q := 1) hx (dc kX10_isEmpty_0 0 rfl) rfl 0 rfl rfl ?_
  refine w_cVIR (q := 4) (As := []) (st := []) hx (dc kX10_isEmpty_0 1 rfl) cf10 (by decide) rfl (cI _ my_X10_size lm_X10_32 (by decide)) vs_X10_size rfl (fun u hu => sX10_size _ _ _ _ _ hu) (fun e => ite_ne (by unfold mX10_size at e; exact e)) (Nat.zero_le _) rfl (fun v1 => ?_)
  refine j_if_neS (q := 7) (tgt := 11) hx (dc kX10_isEmpty_0 2 rfl) (by decide) rfl ?_ ?_
  · refine j_iconst (q := 12) (v := (0 : Int32)) hx (dc kX10_isEmpty_0 5 rfl) (by decide) rfl ?_
    exact r_cR hx (Or.inl rfl) hR (dc kX10_isEmpty_0 6 rfl)
  · refine j_iconst (q := 8) (v := (1 : Int32)) hx (dc kX10_isEmpty_0 3 rfl) (by decide) rfl ?_
    refine j_goto (q := 12) hx (dc kX10_isEmpty_0 4 rfl) (by decide) ?_
    exact r_cR hx (Or.inr rfl) hR (dc kX10_isEmpty_0 6 rfl)

set_option maxHeartbeats 4000000 in
set_option maxRecDepth 100000 in
theorem sX5_file (l : Launch) (w : Wd) (x0 : Nat) (x1 : Int32) (x2 : Int32) (x3 : Int32) (h : Hp) (u : (Int32 × Hp)) (hK : mX5_file x0 x1 x2 x3 h = some u) : M1 l w mi_X5_file 2 [vR w x0, .int x1, .int x2, .int x3] h u.2 (some (.int u.1)) := by
  refine M1.of (own := RX5) (T := fun _ r => r = u) hK (by decide +kernel) rfl (by first | (simp only [lg_lenR, lg_lenI, lg_lenL, lg_len0]; decide) | decide) (fun x hx hnl hhf hl hw hret hnm hQ h0e => ⟨?_, rfl⟩)
  subst hw
  subst hl
  have hR : Rt x h u.2 (some (.int u.1)) ((some .int)) := ⟨h0e, hhf, hret, hQ⟩
  have hn : ∀ i, i < 5 → i < x.2.2.1.1.1 := fun i hi => by rw [hnl]; exact hi
  have e0 : lv_args 0 [vR x.2.2.2 x0, .int x1, .int x2, .int x3] = [(0, vR x.2.2.2 x0), (1, .int x1), (2, .int x2), (3, .int x3)] := by simp only [lv_argsR, lv_argsI, lv_argsL, lv_args0]
  rw [e0]
  unfold mX5_file
  refine J.ckd fun hk0 => ?_
  refine j_aload_n (q := 1) hx (dc kX5_file_0 0 rfl) rfl 0 rfl rfl ?_
  refine w_gI (q := 4) hx (dc kX5_file_0 1 rfl) ff_X5_2 lk_X5_38 rfl (fun v1 => ?_)
  refine j_istore (q := 6) (i := 4) (l2 := [(0, vR x.2.2.2 x0), (1, .int x1), (2, .int x2), (3, .int x3)]) hx (dc kX5_file_0 2 rfl) (hn 4 (by decide)) [0, 1, 2, 3] rfl ⟨⟨show (0 : Nat) ≠ 4 by decide, Or.inl (show (0 : Nat) + 1 ≠ 4 by decide)⟩, ⟨⟨show (1 : Nat) ≠ 4 by decide, Or.inl (show (1 : Nat) + 1 ≠ 4 by decide)⟩, ⟨⟨show (2 : Nat) ≠ 4 by decide, Or.inl (show (2 : Nat) + 1 ≠ 4 by decide)⟩, ⟨⟨show (3 : Nat) ≠ 4 by decide, Or.inr rfl⟩, trivial⟩⟩⟩⟩ rfl ?_
  refine j_aload_n (q := 7) hx (dc kX5_file_0 3 rfl) rfl 1 rfl rfl ?_
  refine w_gR (q := 10) hx (dc kX5_file_0 4 rfl) ff_X5_9 lk_X5_9 rfl (fun v2 => ?_)
  refine j_iload (q := 12) hx (dc kX5_file_0 5 rfl) 0 rfl rfl ?_
  refine j_iload_n (q := 13) hx (dc kX5_file_0 6 rfl) rfl 2 rfl rfl ?_
  refine w_cSVW (q := 16) (As := [vR x.2.2.2 v2, .int v1, .int x1]) (st := []) hx (dc kX5_file_0 7 rfl) (cI _ my_X11_put lm_X5_77 (by decide)) st_X11_put rfl (fun u hu => sX11_put _ _ _ _ _ _ _ hu) (Nat.zero_le _) rfl (fun h4 => ?_)
  refine j_aload_n (q := 17) hx (dc kX5_file_0 8 rfl) rfl 1 rfl rfl ?_
  refine w_gR (q := 20) hx (dc kX5_file_0 9 rfl) ff_X5_10 lk_X5_15 rfl (fun v5 => ?_)
  refine j_iload (q := 22) hx (dc kX5_file_0 10 rfl) 0 rfl rfl ?_
  refine j_iload_n (q := 23) hx (dc kX5_file_0 11 rfl) rfl 3 rfl rfl ?_
  refine w_cSVW (q := 26) (As := [vR x.2.2.2 v5, .int v1, .int x2]) (st := []) hx (dc kX5_file_0 12 rfl) (cI _ my_X11_put lm_X5_77 (by decide)) st_X11_put rfl (fun u hu => sX11_put _ _ _ _ _ _ _ hu) (Nat.zero_le _) rfl (fun h7 => ?_)
  refine j_aload_n (q := 27) hx (dc kX5_file_0 13 rfl) rfl 1 rfl rfl ?_
  refine w_gR (q := 30) hx (dc kX5_file_0 14 rfl) ff_X5_11 lk_X5_18 rfl (fun v8 => ?_)
  refine j_iload (q := 32) hx (dc kX5_file_0 15 rfl) 0 rfl rfl ?_
  refine j_iload_n (q := 33) hx (dc kX5_file_0 16 rfl) rfl 4 rfl rfl ?_
  refine w_cSVW (q := 36) (As := [vR x.2.2.2 v8, .int v1, .int x3]) (st := []) hx (dc kX5_file_0 17 rfl) (cI _ my_X11_put lm_X5_77 (by decide)) st_X11_put rfl (fun u hu => sX11_put _ _ _ _ _ _ _ hu) (Nat.zero_le _) rfl (fun h10 => ?_)
  refine j_aload_n (q := 37) hx (dc kX5_file_0 18 rfl) rfl 1 rfl rfl ?_
  refine w_gR (q := 40) hx (dc kX5_file_0 19 rfl) ff_X5_12 lk_X5_21 rfl (fun v11 => ?_)
  refine j_iload (q := 42) hx (dc kX5_file_0 20 rfl) 0 rfl rfl ?_
  refine j_aload_n (q := 43) hx (dc kX5_file_0 21 rfl) rfl 1 rfl rfl ?_
  refine w_gI (q := 46) hx (dc kX5_file_0 22 rfl) ff_X5_0 lk_X5_30 rfl (fun v12 => ?_)
  refine w_cSVW (q := 49) (As := [vR x.2.2.2 v11, .int v1, .int v12]) (st := []) hx (dc kX5_file_0 23 rfl) (cI _ my_X11_put lm_X5_77 (by decide)) st_X11_put rfl (fun u hu => sX11_put _ _ _ _ _ _ _ hu) (Nat.zero_le _) rfl (fun h14 => ?_)
  refine j_aload_n (q := 50) hx (dc kX5_file_0 24 rfl) rfl 1 rfl rfl ?_
  refine w_gR (q := 53) hx (dc kX5_file_0 25 rfl) ff_X5_13 lk_X5_24 rfl (fun v15 => ?_)
  refine j_iload (q := 55) hx (dc kX5_file_0 26 rfl) 0 rfl rfl ?_
  refine j_iconst (q := 56) (v := (0 : Int32)) hx (dc kX5_file_0 27 rfl) (by decide) rfl ?_
  refine w_cSVW (q := 59) (As := [vR x.2.2.2 v15, .int v1, .int (0 : Int32)]) (st := []) hx (dc kX5_file_0 28 rfl) (cI _ my_X11_put lm_X5_77 (by decide)) st_X11_put rfl (fun u hu => sX11_put _ _ _ _ _ _ _ hu) (Nat.zero_le _) rfl (fun h17 => ?_)
  refine j_aload_n (q := 60) hx (dc kX5_file_0 29 rfl) rfl 1 rfl rfl ?_
  refine w_gR (q := 63) hx (dc kX5_file_0 30 rfl) ff_X5_14 lk_X5_27 rfl (fun v18 => ?_)
  refine j_iload (q := 65) hx (dc kX5_file_0 31 rfl) 0 rfl rfl ?_
  refine j_iconst (q := 66) (v := (0 : Int32)) hx (dc kX5_file_0 32 rfl) (by decide) rfl ?_
  refine w_cSVW (q := 69) (As := [vR x.2.2.2 v18, .int v1, .int (0 : Int32)]) (st := []) hx (dc kX5_file_0 33 rfl) (cI _ my_X11_put lm_X5_77 (by decide)) st_X11_put rfl (fun u hu => sX11_put _ _ _ _ _ _ _ hu) (Nat.zero_le _) rfl (fun h20 => ?_)
  refine j_aload_n (q := 70) hx (dc kX5_file_0 34 rfl) rfl 1 rfl rfl ?_
  refine j_dup (q := 71) hx (dc kX5_file_0 35 rfl) (vR_cat _ _) rfl ?_
  refine w_gI (q := 74) hx (dc kX5_file_0 36 rfl) ff_X5_2 lk_X5_38 rfl (fun v21 => ?_)
  refine j_iconst (q := 75) (v := (1 : Int32)) hx (dc kX5_file_0 37 rfl) (by decide) rfl ?_
  refine j_iadd (q := 76) hx (dc kX5_file_0 38 rfl) rfl ?_
  refine w_sI (q := 79) hx (dc kX5_file_0 39 rfl) ff_X5_2 rfl lk_X5_38 (Or.inl rfl) rfl (fun h22 => ?_)
  refine j_iload (q := 81) hx (dc kX5_file_0 40 rfl) 0 rfl rfl ?_
  exact r_iW hx hR (dc kX5_file_0 41 rfl)

set_option maxHeartbeats 4000000 in
set_option maxRecDepth 100000 in
theorem sX5_tell (l : Launch) (w : Wd) (x0 : Nat) (x1 : Int32) (x2 : Int32) (x3 : Int32) (h : Hp) (u : Hp) (hK : mX5_tell x0 x1 x2 x3 h = some u) : M1 l w mi_X5_tell 2 [vR w x0, .int x1, .int x2, .int x3] h u (none) := by
  refine M1.of (own := RX5) (T := fun _ r => r = u) hK (by decide +kernel) rfl (by first | (simp only [lg_lenR, lg_lenI, lg_lenL, lg_len0]; decide) | decide) (fun x hx hnl hhf hl hw hret hnm hQ h0e => ⟨?_, rfl⟩)
  subst hw
  subst hl
  have hR : Rt x h u (none) (none) := ⟨h0e, hhf, hret, hQ⟩
  have hn : ∀ i, i < 5 → i < x.2.2.1.1.1 := fun i hi => by rw [hnl]; exact hi
  have e0 : lv_args 0 [vR x.2.2.2 x0, .int x1, .int x2, .int x3] = [(0, vR x.2.2.2 x0), (1, .int x1), (2, .int x2), (3, .int x3)] := by simp only [lv_argsR, lv_argsI, lv_argsL, lv_args0]
  rw [e0]
  have hb82 : ∀ (t0 : Nat) (t1 : Int32) (t2 : Int32) (h : Hp), J x 82 [] [.int t2, .int t1, vR x.2.2.2 t0] h (mX5_tell_b82 t0 t1 t2 h) (fun r => r = u) := by
    intro t0 t1 t2 h
    unfold mX5_tell_b82
    refine w_cSVW (q := 85) (As := [vR x.2.2.2 t0, .int t1, .int t2]) (st := []) hx (dc kX5_tell_0 47 rfl) (cI _ my_X11_put lm_X5_77 (by decide)) st_X11_put rfl (fun u hu => sX11_put _ _ _ _ _ _ _ hu) (Nat.zero_le _) rfl (fun h12 => ?_)
    exact r_vW hx hR (dc kX5_tell_0 48 rfl)
  have hb42 : ∀ (x0 : Nat) (x1 : Int32) (x3 : Int32) (x4 : Int32) (t0 : Nat) (t1 : Int32) (t2 : Int32) (h : Hp), J x 42 [(0, vR x.2.2.2 x0), (1, .int x1), (3, .int x3), (4, .int x4)] [.int t2, .int t1, vR x.2.2.2 t0] h (mX5_tell_b42 x0 x1 x3 x4 t0 t1 t2 h) (fun r => r = u) := by
    intro x0 x1 x3 x4 t0 t1 t2 h
    unfold mX5_tell_b42
    refine w_cSVW (q := 45) (As := [vR x.2.2.2 t0, .int t1, .int t2]) (st := []) hx (dc kX5_tell_0 25 rfl) (cI _ my_X11_put lm_X5_77 (by decide)) st_X11_put rfl (fun u hu => sX11_put _ _ _ _ _ _ _ hu) (Nat.zero_le _) rfl (fun h6 => ?_)
    refine j_aload_n (q := 46) hx (dc kX5_tell_0 26 rfl) rfl 0 rfl rfl ?_
    refine w_gR (q := 49) hx (dc kX5_tell_0 27 rfl) ff_X5_14 lk_X5_27 rfl (fun v7 => ?_)
    refine j_iload_n (q := 50) hx (dc kX5_tell_0 28 rfl) rfl 1 rfl rfl ?_
    refine j_iload_n (q := 51) hx (dc kX5_tell_0 29 rfl) rfl 2 rfl rfl ?_
    refine j_iconst (q := 52) (v := (1 : Int32)) hx (dc kX5_tell_0 30 rfl) (by decide) rfl ?_
    refine j_icmp_neS (q := 55) (tgt := 69) hx (dc kX5_tell_0 31 rfl) (by decide) rfl ?_ ?_
    · refine j_aload_n (q := 70) hx (dc kX5_tell_0 39 rfl) rfl 0 rfl rfl ?_
      refine w_gR (q := 73) hx (dc kX5_tell_0 40 rfl) ff_X5_14 lk_X5_27 rfl (fun v8 => ?_)
      refine j_iload_n (q := 74) hx (dc kX5_tell_0 41 rfl) rfl 1 rfl rfl ?_
      refine w_cSIR (q := 77) (As := [vR x.2.2.2 v8, .int x1]) (st := [.int x1, vR x.2.2.2 v7]) hx (dc kX5_tell_0 42 rfl) (cI _ my_X11_at lm_X5_73 (by decide)) st_X11_at rfl (fun u hu => sX11_at _ _ _ _ _ _ hu) (sum_le (sum_I (sum_R sum_nil)) (by decide)) rfl (fun v9 => ?_)
      refine j_iload (q := 79) hx (dc kX5_tell_0 43 rfl) 3 rfl rfl ?_
      refine j_iconst (q := 80) (v := (-1 : Int32)) hx (dc kX5_tell_0 44 rfl) (by decide) rfl ?_
      refine j_ixor (q := 81) hx (dc kX5_tell_0 45 rfl) rfl ?_
      refine j_iand (q := 82) hx (dc kX5_tell_0 46 rfl) rfl ?_
      exact j_sub [] rfl (hb82 v7 x1 (v9 &&& (x4 ^^^ (-1 : Int32))) h6)
    · refine j_aload_n (q := 56) hx (dc kX5_tell_0 32 rfl) rfl 0 rfl rfl ?_
      refine w_gR (q := 59) hx (dc kX5_tell_0 33 rfl) ff_X5_14 lk_X5_27 rfl (fun v13 => ?_)
      refine j_iload_n (q := 60) hx (dc kX5_tell_0 34 rfl) rfl 1 rfl rfl ?_
      refine w_cSIR (q := 63) (As := [vR x.2.2.2 v13, .int x1]) (st := [.int x1, vR x.2.2.2 v7]) hx (dc kX5_tell_0 35 rfl) (cI _ my_X11_at lm_X5_73 (by decide)) st_X11_at rfl (fun u hu => sX11_at _ _ _ _ _ _ hu) (sum_le (sum_I (sum_R sum_nil)) (by decide)) rfl (fun v14 => ?_)
      refine j_iload (q := 65) hx (dc kX5_tell_0 36 rfl) 3 rfl rfl ?_
      refine j_ior (q := 66) hx (dc kX5_tell_0 37 rfl) rfl ?_
      refine j_goto (q := 82) hx (dc kX5_tell_0 38 rfl) (by decide) ?_
      exact j_sub [] rfl (hb82 v7 x1 (v14 ||| x4) h6)
  unfold mX5_tell
  refine J.ckd fun hk0 => ?_
  refine j_iconst (q := 1) (v := (1 : Int32)) hx (dc kX5_tell_0 0 rfl) (by decide) rfl ?_
  refine j_iload_n (q := 2) hx (dc kX5_tell_0 1 rfl) rfl 2 rfl rfl ?_
  refine j_ishl (q := 3) hx (dc kX5_tell_0 2 rfl) rfl ?_
  refine j_istore (q := 5) (i := 4) (l2 := [(0, vR x.2.2.2 x0), (1, .int x1), (3, .int x3)]) hx (dc kX5_tell_0 3 rfl) (hn 4 (by decide)) [0, 1, 3] rfl ⟨⟨show (0 : Nat) ≠ 4 by decide, Or.inl (show (0 : Nat) + 1 ≠ 4 by decide)⟩, ⟨⟨show (1 : Nat) ≠ 4 by decide, Or.inl (show (1 : Nat) + 1 ≠ 4 by decide)⟩, ⟨⟨show (3 : Nat) ≠ 4 by decide, Or.inr rfl⟩, trivial⟩⟩⟩ rfl ?_
  refine j_aload_n (q := 6) hx (dc kX5_tell_0 4 rfl) rfl 1 rfl rfl ?_
  refine w_gR (q := 9) hx (dc kX5_tell_0 5 rfl) ff_X5_13 lk_X5_24 rfl (fun v1 => ?_)
  refine j_iload_n (q := 10) hx (dc kX5_tell_0 6 rfl) rfl 2 rfl rfl ?_
  refine j_iload_n (q := 11) hx (dc kX5_tell_0 7 rfl) rfl 3 rfl rfl ?_
  refine j_iconst (q := 12) (v := (2 : Int32)) hx (dc kX5_tell_0 8 rfl) (by decide) rfl ?_
  refine j_icmp_geS (q := 15) (tgt := 29) hx (dc kX5_tell_0 9 rfl) (by decide) rfl ?_ ?_
  · refine j_aload_n (q := 30) hx (dc kX5_tell_0 17 rfl) rfl 1 rfl rfl ?_
    refine w_gR (q := 33) hx (dc kX5_tell_0 18 rfl) ff_X5_13 lk_X5_24 rfl (fun v2 => ?_)
    refine j_iload_n (q := 34) hx (dc kX5_tell_0 19 rfl) rfl 2 rfl rfl ?_
    refine w_cSIR (q := 37) (As := [vR x.2.2.2 v2, .int x1]) (st := [.int x1, vR x.2.2.2 v1]) hx (dc kX5_tell_0 20 rfl) (cI _ my_X11_at lm_X5_73 (by decide)) st_X11_at rfl (fun u hu => sX11_at _ _ _ _ _ _ hu) (sum_le (sum_I (sum_R sum_nil)) (by decide)) rfl (fun v3 => ?_)
    refine j_iload (q := 39) hx (dc kX5_tell_0 21 rfl) 0 rfl rfl ?_
    refine j_iconst (q := 40) (v := (-1 : Int32)) hx (dc kX5_tell_0 22 rfl) (by decide) rfl ?_
    refine j_ixor (q := 41) hx (dc kX5_tell_0 23 rfl) rfl ?_
    refine j_iand (q := 42) hx (dc kX5_tell_0 24 rfl) rfl ?_
    exact j_sub [1, 2, 3, 0] rfl (hb42 x0 x1 x3 ((1 : Int32) <<< (x2 &&& 31)) v1 x1 (v3 &&& (((1 : Int32) <<< (x2 &&& 31)) ^^^ (-1 : Int32))) h)
  · refine j_aload_n (q := 16) hx (dc kX5_tell_0 10 rfl) rfl 1 rfl rfl ?_
    refine w_gR (q := 19) hx (dc kX5_tell_0 11 rfl) ff_X5_13 lk_X5_24 rfl (fun v16 => ?_)
    refine j_iload_n (q := 20) hx (dc kX5_tell_0 12 rfl) rfl 2 rfl rfl ?_
    refine w_cSIR (q := 23) (As := [vR x.2.2.2 v16, .int x1]) (st := [.int x1, vR x.2.2.2 v1]) hx (dc kX5_tell_0 13 rfl) (cI _ my_X11_at lm_X5_73 (by decide)) st_X11_at rfl (fun u hu => sX11_at _ _ _ _ _ _ hu) (sum_le (sum_I (sum_R sum_nil)) (by decide)) rfl (fun v17 => ?_)
    refine j_iload (q := 25) hx (dc kX5_tell_0 14 rfl) 0 rfl rfl ?_
    refine j_ior (q := 26) hx (dc kX5_tell_0 15 rfl) rfl ?_
    refine j_goto (q := 42) hx (dc kX5_tell_0 16 rfl) (by decide) ?_
    exact j_sub [1, 2, 3, 0] rfl (hb42 x0 x1 x3 ((1 : Int32) <<< (x2 &&& 31)) v1 x1 (v17 ||| ((1 : Int32) <<< (x2 &&& 31))) h)

set_option maxHeartbeats 4000000 in
set_option maxRecDepth 100000 in
theorem sX3_start (l : Launch) (w : Wd) (x0 : Nat) (x1 : Int32) (h : Hp) (u : Hp) (hK : mX3_start x0 x1 h = some u) : M1 l w mi_X3_start 1 [vR w x0, .int x1] h u (none) := by
  refine M1.of (own := RX3) (T := fun _ r => r = u) hK (by decide +kernel) rfl (by first | (simp only [lg_lenR, lg_lenI, lg_lenL, lg_len0]; decide) | decide) (fun x hx hnl hhf hl hw hret hnm hQ h0e => ⟨?_, rfl⟩)
  subst hw
  subst hl
  have hR : Rt x h u (none) (none) := ⟨h0e, hhf, hret, hQ⟩
  have hn : ∀ i, i < 2 → i < x.2.2.1.1.1 := fun i hi => by rw [hnl]; exact hi
  have e0 : lv_args 0 [vR x.2.2.2 x0, .int x1] = [(0, vR x.2.2.2 x0), (1, .int x1)] := by simp only [lv_argsR, lv_argsI, lv_argsL, lv_args0]
  rw [e0]
  unfold mX3_start
  refine J.ckd fun hk0 => ?_
  refine j_aload_n (q := 1) hx (dc kX3_start_0 0 rfl) rfl 0 rfl rfl ?_
  refine j_iload_n (q := 2) hx (dc kX3_start_0 1 rfl) rfl 1 rfl rfl ?_
  refine w_sI (q := 5) hx (dc kX3_start_0 2 rfl) ff_X3_0 rfl lk_X3_9 (Or.inl rfl) rfl (fun h1 => ?_)
  refine j_aload_n (q := 6) hx (dc kX3_start_0 3 rfl) rfl 0 rfl rfl ?_
  refine j_iconst (q := 7) (v := (0 : Int32)) hx (dc kX3_start_0 4 rfl) (by decide) rfl ?_
  refine w_sI (q := 10) hx (dc kX3_start_0 5 rfl) ff_X3_1 rfl lk_X3_15 (Or.inl rfl) rfl (fun h2 => ?_)
  refine j_aload_n (q := 11) hx (dc kX3_start_0 6 rfl) rfl 0 rfl rfl ?_
  refine j_iconst (q := 12) (v := (0 : Int32)) hx (dc kX3_start_0 7 rfl) (by decide) rfl ?_
  refine w_sI (q := 15) hx (dc kX3_start_0 8 rfl) ff_X3_2 rfl lk_X3_18 (Or.inl rfl) rfl (fun h3 => ?_)
  refine j_aload_n (q := 16) hx (dc kX3_start_0 9 rfl) rfl 0 rfl rfl ?_
  refine j_iconst (q := 17) (v := (0 : Int32)) hx (dc kX3_start_0 10 rfl) (by decide) rfl ?_
  refine w_sI (q := 20) hx (dc kX3_start_0 11 rfl) ff_X3_3 rfl lk_X3_21 (Or.inl rfl) rfl (fun h4 => ?_)
  refine j_aload_n (q := 21) hx (dc kX3_start_0 12 rfl) rfl 0 rfl rfl ?_
  refine j_iconst (q := 22) (v := (0 : Int32)) hx (dc kX3_start_0 13 rfl) (by decide) rfl ?_
  refine w_sZ (q := 25) hx (dc kX3_start_0 14 rfl) ff_X3_4 rfl lk_X3_24 (Or.inl rfl) rfl (fun h5 => ?_)
  exact r_vW hx hR (dc kX3_start_0 15 rfl)

set_option maxHeartbeats 4000000 in
set_option maxRecDepth 100000 in
theorem sJ6_bitCount_0f7a4 (l : Launch) (w : Wd) (x0 : Int32) (h : Hp) (u : Int32) (hK : mJ6_bitCount_0f7a4 x0 = some u) : M1 l w mi_J6_bitCount_0f7a4 1 [.int x0] h h (some (.int u)) := by
  refine M1.of (own := RJ6) (T := fun _ r => r = u) hK (by decide +kernel) rfl (by first | (simp only [lg_lenR, lg_lenI, lg_lenL, lg_len0]; decide) | decide) (fun x hx hnl hhf hl hw hret hnm hQ h0e => ⟨?_, rfl⟩)
  subst hw
  subst hl
  have hR : Rt x h h (some (.int u)) ((some .int)) := ⟨h0e, hhf, hret, hQ⟩
  have hn : ∀ i, i < 1 → i < x.2.2.1.1.1 := fun i hi => by rw [hnl]; exact hi
  have e0 : lv_args 0 [.int x0] = [(0, .int x0)] := by simp only [lv_argsR, lv_argsI, lv_argsL, lv_args0]
  rw [e0]
  have hb41 : ∀ (x0 : Int32), J x 41 [(0, .int x0)] [] h (mJ6_bitCount_0f7a4_b41 x0) (fun r => r = u) := by
    intro x0
    unfold mJ6_bitCount_0f7a4_b41
    refine j_iload_n (q := 42) hx (dc kJ6_bitCount_0f7a4_0 32 rfl) rfl 0 rfl rfl ?_
    refine j_iload_n (q := 43) hx (dc kJ6_bitCount_0f7a4_0 33 rfl) rfl 0 rfl rfl ?_
    refine j_bipush (q := 45) (v := (16 : Int32)) hx (dc kJ6_bitCount_0f7a4_0 34 rfl) (by decide) rfl ?_
    refine j_iushr (q := 46) hx (dc kJ6_bitCount_0f7a4_0 35 rfl) rfl ?_
    refine j_iadd (q := 47) hx (dc kJ6_bitCount_0f7a4_0 36 rfl) rfl ?_
    refine j_istore_n (q := 48) (i := 0) (l2 := []) hx (dc kJ6_bitCount_0f7a4_0 37 rfl) rfl (hn 0 (by decide)) [] rfl trivial rfl ?_
    refine j_iload_n (q := 49) hx (dc kJ6_bitCount_0f7a4_0 38 rfl) rfl 0 rfl rfl ?_
    refine j_bipush (q := 51) (v := (63 : Int32)) hx (dc kJ6_bitCount_0f7a4_0 39 rfl) (by decide) rfl ?_
    refine j_iand (q := 52) hx (dc kJ6_bitCount_0f7a4_0 40 rfl) rfl ?_
    exact r_iR hx hR (dc kJ6_bitCount_0f7a4_0 41 rfl)
  have hb24 : ∀ (x0 : Int32), J x 24 [(0, .int x0)] [] h (mJ6_bitCount_0f7a4_b24 x0) (fun r => r = u) := by
    intro x0
    unfold mJ6_bitCount_0f7a4_b24
    refine j_iload_n (q := 25) hx (dc kJ6_bitCount_0f7a4_0 18 rfl) rfl 0 rfl rfl ?_
    refine j_iload_n (q := 26) hx (dc kJ6_bitCount_0f7a4_0 19 rfl) rfl 0 rfl rfl ?_
    refine j_iconst (q := 27) (v := (4 : Int32)) hx (dc kJ6_bitCount_0f7a4_0 20 rfl) (by decide) rfl ?_
    refine j_iushr (q := 28) hx (dc kJ6_bitCount_0f7a4_0 21 rfl) rfl ?_
    refine j_iadd (q := 29) hx (dc kJ6_bitCount_0f7a4_0 22 rfl) rfl ?_
    refine j_ldc_w (q := 32) hx kc_J6_267 (dc kJ6_bitCount_0f7a4_0 23 rfl) rfl ?_
    refine j_iand (q := 33) hx (dc kJ6_bitCount_0f7a4_0 24 rfl) rfl ?_
    refine j_istore_n (q := 34) (i := 0) (l2 := []) hx (dc kJ6_bitCount_0f7a4_0 25 rfl) rfl (hn 0 (by decide)) [] rfl trivial rfl ?_
    refine j_iload_n (q := 35) hx (dc kJ6_bitCount_0f7a4_0 26 rfl) rfl 0 rfl rfl ?_
    refine j_iload_n (q := 36) hx (dc kJ6_bitCount_0f7a4_0 27 rfl) rfl 0 rfl rfl ?_
    refine j_bipush (q := 38) (v := (8 : Int32)) hx (dc kJ6_bitCount_0f7a4_0 28 rfl) (by decide) rfl ?_
    refine j_iushr (q := 39) hx (dc kJ6_bitCount_0f7a4_0 29 rfl) rfl ?_
    refine j_iadd (q := 40) hx (dc kJ6_bitCount_0f7a4_0 30 rfl) rfl ?_
    refine j_istore_n (q := 41) (i := 0) (l2 := []) hx (dc kJ6_bitCount_0f7a4_0 31 rfl) rfl (hn 0 (by decide)) [] rfl trivial rfl ?_
    exact hb41 (((x0 + (ushrI x0 (4 : Int32))) &&& (252645135 : Int32)) + (ushrI ((x0 + (ushrI x0 (4 : Int32))) &&& (252645135 : Int32)) (8 : Int32)))
  unfold mJ6_bitCount_0f7a4
  refine j_iload_n (q := 1) hx (dc kJ6_bitCount_0f7a4_0 0 rfl) rfl 0 rfl rfl ?_
  refine j_iload_n (q := 2) hx (dc kJ6_bitCount_0f7a4_0 1 rfl) rfl 0 rfl rfl ?_
  refine j_iconst (q := 3) (v := (1 : Int32)) hx (dc kJ6_bitCount_0f7a4_0 2 rfl) (by decide) rfl ?_
  refine j_iushr (q := 4) hx (dc kJ6_bitCount_0f7a4_0 3 rfl) rfl ?_
  refine j_ldc_w (q := 7) hx kc_J6_265 (dc kJ6_bitCount_0f7a4_0 4 rfl) rfl ?_
  refine j_iand (q := 8) hx (dc kJ6_bitCount_0f7a4_0 5 rfl) rfl ?_
  refine j_isub (q := 9) hx (dc kJ6_bitCount_0f7a4_0 6 rfl) rfl ?_
  refine j_istore_n (q := 10) (i := 0) (l2 := []) hx (dc kJ6_bitCount_0f7a4_0 7 rfl) rfl (hn 0 (by decide)) [] rfl trivial rfl ?_
  refine j_iload_n (q := 11) hx (dc kJ6_bitCount_0f7a4_0 8 rfl) rfl 0 rfl rfl ?_
  refine j_ldc_w (q := 14) hx kc_J6_266 (dc kJ6_bitCount_0f7a4_0 9 rfl) rfl ?_
  refine j_iand (q := 15) hx (dc kJ6_bitCount_0f7a4_0 10 rfl) rfl ?_
  refine j_iload_n (q := 16) hx (dc kJ6_bitCount_0f7a4_0 11 rfl) rfl 0 rfl rfl ?_
  refine j_iconst (q := 17) (v := (2 : Int32)) hx (dc kJ6_bitCount_0f7a4_0 12 rfl) (by decide) rfl ?_
  refine j_iushr (q := 18) hx (dc kJ6_bitCount_0f7a4_0 13 rfl) rfl ?_
  refine j_ldc_w (q := 21) hx kc_J6_266 (dc kJ6_bitCount_0f7a4_0 14 rfl) rfl ?_
  refine j_iand (q := 22) hx (dc kJ6_bitCount_0f7a4_0 15 rfl) rfl ?_
  refine j_iadd (q := 23) hx (dc kJ6_bitCount_0f7a4_0 16 rfl) rfl ?_
  refine j_istore_n (q := 24) (i := 0) (l2 := []) hx (dc kJ6_bitCount_0f7a4_0 17 rfl) rfl (hn 0 (by decide)) [] rfl trivial rfl ?_
  exact hb24 (((x0 - ((ushrI x0 (1 : Int32)) &&& (1431655765 : Int32))) &&& (858993459 : Int32)) + ((ushrI (x0 - ((ushrI x0 (1 : Int32)) &&& (1431655765 : Int32))) (2 : Int32)) &&& (858993459 : Int32)))

set_option maxHeartbeats 4000000 in
set_option maxRecDepth 100000 in
theorem sX3_nextFacts (l : Launch) (w : Wd) (x0 : Nat) (h : Hp) (u : (Int32 × Hp)) (hK : mX3_nextFacts x0 h = some u) : M1 l w mi_X3_nextFacts 2 [vR w x0] h u.2 (some (.int u.1)) := by
  refine M1.of (own := RX3) (T := fun _ r => r = u) hK (by decide +kernel) rfl (by first | (simp only [lg_lenR, lg_lenI, lg_lenL, lg_len0]; decide) | decide) (fun x hx hnl hhf hl hw hret hnm hQ h0e => ⟨?_, rfl⟩)
  subst hw
  subst hl
  have hR : Rt x h u.2 (some (.int u.1)) ((some .boolean)) := ⟨h0e, hhf, hret, hQ⟩
  have hn : ∀ i, i < 2 → i < x.2.2.1.1.1 := fun i hi => by rw [hnl]; exact hi
  have e0 : lv_args 0 [vR x.2.2.2 x0] = [(0, vR x.2.2.2 x0)] := by simp only [lv_argsR, lv_argsI, lv_argsL, lv_args0]
  rw [e0]
  have hb2 : ∀ (x0 : Nat) (x1 : Int32) (h : Hp), J x 2 [(0, vR x.2.2.2 x0), (1, .int x1)] [] h (mX3_nextFacts_l2 x0 x1 h) (fun r => r = u) := by
    intro x0 x1 h
    have hB : ∀ (x1 : Int32) (h : Hp), J x 2 [(0, vR x.2.2.2 x0), (1, .int x1)] [] h (mX3_nextFacts_l2f x0 x1 h) (TL (S := (Int32 × Hp)) x 2 (fun s => [(0, vR x.2.2.2 x0), (1, .int s.1)]) [] (fun s => s.2) (fun r => r = u)) := by
      intro x1 h
      have hb44 : ∀ (x0 : Nat) (x1 : Int32) (h : Hp), J x 44 [(0, vR x.2.2.2 x0), (1, .int x1)] [] h (mX3_nextFacts_b44 x0 x1 h) (TL (S := (Int32 × Hp)) x 2 (fun s => [(0, vR x.2.2.2 x0), (1, .int s.1)]) [] (fun s => s.2) (fun r => r = u)) := by
        intro x0 x1 h
        unfold mX3_nextFacts_b44
        refine j_aload_n (q := 45) hx (dc kX3_nextFacts_0 24 rfl) rfl 0 rfl rfl ?_
        refine w_gI (q := 48) hx (dc kX3_nextFacts_0 25 rfl) ff_X3_1 lk_X3_15 rfl (fun v6 => ?_)
        refine j_aload_n (q := 49) hx (dc kX3_nextFacts_0 26 rfl) rfl 0 rfl rfl ?_
        refine w_gI (q := 52) hx (dc kX3_nextFacts_0 27 rfl) ff_X3_0 lk_X3_9 rfl (fun v7 => ?_)
        refine w_cSIR (q := 55) (As := [.int v7]) (st := [.int v6]) hx (dc kX3_nextFacts_0 28 rfl) (cI _ my_J6_bitCount_0f7a4 lm_X3_32 (by decide)) st_J6_bitCount_0f7a4 rfl (fun u hu => sJ6_bitCount_0f7a4 _ _ _ _ _ hu) (sum_le (sum_I sum_nil) (by decide)) rfl (fun v8 => ?_)
        refine j_icmp_leS (q := 58) (tgt := 60) hx (dc kX3_nextFacts_0 29 rfl) (by decide) rfl ?_ ?_
        · refine j_aload_n (q := 61) hx (dc kX3_nextFacts_0 32 rfl) rfl 0 rfl rfl ?_
          refine w_gI (q := 64) hx (dc kX3_nextFacts_0 33 rfl) ff_X3_2 lk_X3_18 rfl (fun v10 => ?_)
          refine w_cSIR (q := 67) (As := [.int v10]) (st := []) hx (dc kX3_nextFacts_0 34 rfl) (cI _ my_J6_bitCount_0f7a4 lm_X3_32 (by decide)) st_J6_bitCount_0f7a4 rfl (fun u hu => sJ6_bitCount_0f7a4 _ _ _ _ _ hu) (Nat.zero_le _) rfl (fun v11 => ?_)
          refine j_aload_n (q := 68) hx (dc kX3_nextFacts_0 35 rfl) rfl 0 rfl rfl ?_
          refine w_gI (q := 71) hx (dc kX3_nextFacts_0 36 rfl) ff_X3_1 lk_X3_15 rfl (fun v13 => ?_)
          refine j_icmp_neS (q := 74) (tgt := 76) hx (dc kX3_nextFacts_0 37 rfl) (by decide) rfl ?_ ?_
          · refine j_iinc (q := 79) (l2 := [(0, vR x.2.2.2 x0)]) hx (dc kX3_nextFacts_0 40 rfl) 1 rfl (v := (1 : Int32)) (by decide) (hn 1 (by decide)) [0] rfl ⟨⟨show (0 : Nat) ≠ 1 by decide, Or.inr (vR_cat _ _)⟩, trivial⟩ rfl ?_
            refine j_goto (q := 2) hx (dc kX3_nextFacts_0 41 rfl) (by decide) ?_
            exact j_back [1, 0] ((x1 + (1 : Int32)), h) rfl rfl
          · refine j_exit ?_
            refine j_iconst (q := 75) (v := (1 : Int32)) hx (dc kX3_nextFacts_0 38 rfl) (by decide) rfl ?_
            exact r_cW hx (Or.inr rfl) hR (dc kX3_nextFacts_0 39 rfl)
        · refine j_exit ?_
          refine j_iconst (q := 59) (v := (0 : Int32)) hx (dc kX3_nextFacts_0 30 rfl) (by decide) rfl ?_
          exact r_cW hx (Or.inl rfl) hR (dc kX3_nextFacts_0 31 rfl)
      unfold mX3_nextFacts_l2f
      refine j_iload_n (q := 3) hx (dc kX3_nextFacts_0 2 rfl) rfl 1 rfl rfl ?_
      refine j_sipush (q := 6) (v := (2304 : Int32)) hx (dc kX3_nextFacts_0 3 rfl) (by decide) rfl ?_
      refine j_icmp_geS (q := 9) (tgt := 82) hx (dc kX3_nextFacts_0 4 rfl) (by decide) rfl ?_ ?_
      · refine j_exit ?_
        refine j_iconst (q := 83) (v := (0 : Int32)) hx (dc kX3_nextFacts_0 42 rfl) (by decide) rfl ?_
        exact r_cW hx (Or.inl rfl) hR (dc kX3_nextFacts_0 43 rfl)
      · refine j_aload_n (q := 10) hx (dc kX3_nextFacts_0 5 rfl) rfl 0 rfl rfl ?_
        refine j_aload_n (q := 11) hx (dc kX3_nextFacts_0 6 rfl) rfl 0 rfl rfl ?_
        refine w_gI (q := 14) hx (dc kX3_nextFacts_0 7 rfl) ff_X3_2 lk_X3_18 rfl (fun v1 => ?_)
        refine j_aload_n (q := 15) hx (dc kX3_nextFacts_0 8 rfl) rfl 0 rfl rfl ?_
        refine w_gI (q := 18) hx (dc kX3_nextFacts_0 9 rfl) ff_X3_0 lk_X3_9 rfl (fun v2 => ?_)
        refine j_isub (q := 19) hx (dc kX3_nextFacts_0 10 rfl) rfl ?_
        refine j_aload_n (q := 20) hx (dc kX3_nextFacts_0 11 rfl) rfl 0 rfl rfl ?_
        refine w_gI (q := 23) hx (dc kX3_nextFacts_0 12 rfl) ff_X3_0 lk_X3_9 rfl (fun v3 => ?_)
        refine j_iand (q := 24) hx (dc kX3_nextFacts_0 13 rfl) rfl ?_
        refine w_sI (q := 27) hx (dc kX3_nextFacts_0 14 rfl) ff_X3_2 rfl lk_X3_18 (Or.inl rfl) rfl (fun h4 => ?_)
        refine j_aload_n (q := 28) hx (dc kX3_nextFacts_0 15 rfl) rfl 0 rfl rfl ?_
        refine w_gI (q := 31) hx (dc kX3_nextFacts_0 16 rfl) ff_X3_2 lk_X3_18 rfl (fun v5 => ?_)
        refine j_if_neS (q := 34) (tgt := 44) hx (dc kX3_nextFacts_0 17 rfl) (by decide) rfl ?_ ?_
        · exact hb44 x0 x1 h4
        · refine j_aload_n (q := 35) hx (dc kX3_nextFacts_0 18 rfl) rfl 0 rfl rfl ?_
          refine j_dup (q := 36) hx (dc kX3_nextFacts_0 19 rfl) (vR_cat _ _) rfl ?_
          refine w_gI (q := 39) hx (dc kX3_nextFacts_0 20 rfl) ff_X3_1 lk_X3_15 rfl (fun v14 => ?_)
          refine j_iconst (q := 40) (v := (1 : Int32)) hx (dc kX3_nextFacts_0 21 rfl) (by decide) rfl ?_
          refine j_iadd (q := 41) hx (dc kX3_nextFacts_0 22 rfl) rfl ?_
          refine w_sI (q := 44) hx (dc kX3_nextFacts_0 23 rfl) ff_X3_1 rfl lk_X3_15 (Or.inl rfl) rfl (fun h15 => ?_)
          exact hb44 x0 x1 h15
    exact j_loop (S := (Int32 × Hp)) (lvf := fun s => [(0, vR x.2.2.2 x0), (1, .int s.1)]) (hpf := fun s => s.2) (f := (fun s : (Int32 × Hp) => mX3_nextFacts_l2f x0 s.1 s.2)) (fun s => hB s.1 s.2) (x1, h)
  unfold mX3_nextFacts
  refine J.ckd fun hk0 => ?_
  refine j_iconst (q := 1) (v := (0 : Int32)) hx (dc kX3_nextFacts_0 0 rfl) (by decide) rfl ?_
  refine j_istore_n (q := 2) (i := 1) (l2 := [(0, vR x.2.2.2 x0)]) hx (dc kX3_nextFacts_0 1 rfl) rfl (hn 1 (by decide)) [0] rfl ⟨⟨show (0 : Nat) ≠ 1 by decide, Or.inr (vR_cat _ _)⟩, trivial⟩ rfl ?_
  exact j_sub [1, 0] rfl (hb2 x0 (0 : Int32) h)

set_option maxHeartbeats 4000000 in
set_option maxRecDepth 100000 in
theorem sX3_more (l : Launch) (w : Wd) (x0 : Nat) (h : Hp) (u : (Int32 × Hp)) (hK : mX3_more x0 h = some u) : M1 l w mi_X3_more 3 [vR w x0] h u.2 (some (.int u.1)) := by
  refine M1.of (own := RX3) (T := fun _ r => r = u) hK (by decide +kernel) rfl (by first | (simp only [lg_lenR, lg_lenI, lg_lenL, lg_len0]; decide) | decide) (fun x hx hnl hhf hl hw hret hnm hQ h0e => ⟨?_, rfl⟩)
  subst hw
  subst hl
  have hR : Rt x h u.2 (some (.int u.1)) ((some .boolean)) := ⟨h0e, hhf, hret, hQ⟩
  have hn : ∀ i, i < 1 → i < x.2.2.1.1.1 := fun i hi => by rw [hnl]; exact hi
  have e0 : lv_args 0 [vR x.2.2.2 x0] = [(0, vR x.2.2.2 x0)] := by simp only [lv_argsR, lv_argsI, lv_argsL, lv_args0]
  rw [e0]
  unfold mX3_more
  refine J.ckd fun hk0 => ?_
  refine j_aload_n (q := 1) hx (dc kX3_more_0 0 rfl) rfl 0 rfl rfl ?_
  refine w_gI (q := 4) hx (dc kX3_more_0 1 rfl) ff_X3_4 lk_X3_24 rfl (fun v1 => ?_)
  refine j_if_neS (q := 7) (tgt := 14) hx (dc kX3_more_0 2 rfl) (by decide) rfl ?_ ?_
  · refine j_aload_n (q := 15) hx (dc kX3_more_0 8 rfl) rfl 0 rfl rfl ?_
    refine w_gI (q := 18) hx (dc kX3_more_0 9 rfl) ff_X3_3 lk_X3_21 rfl (fun v2 => ?_)
    refine j_aload_n (q := 19) hx (dc kX3_more_0 10 rfl) rfl 0 rfl rfl ?_
    refine w_gI (q := 22) hx (dc kX3_more_0 11 rfl) ff_X3_2 lk_X3_18 rfl (fun v3 => ?_)
    refine j_icmp_eq (q := 25) (tgt := 45) hx (dc kX3_more_0 12 rfl) (by decide) Iff.rfl rfl ?_ ?_
    · refine j_aload_n (q := 46) hx (dc kX3_more_0 25 rfl) rfl 0 rfl rfl ?_
      refine j_iconst (q := 47) (v := (0 : Int32)) hx (dc kX3_more_0 26 rfl) (by decide) rfl ?_
      refine w_sI (q := 50) hx (dc kX3_more_0 27 rfl) ff_X3_3 rfl lk_X3_21 (Or.inl rfl) rfl (fun h4 => ?_)
      refine j_aload_n (q := 51) hx (dc kX3_more_0 28 rfl) rfl 0 rfl rfl ?_
      refine w_cVIW (q := 54) (As := []) (st := []) hx (dc kX3_more_0 29 rfl) cf3 (by decide) rfl (cI _ my_X3_nextFacts lm_X3_28 (by decide)) vs_X3_nextFacts rfl (fun u hu => sX3_nextFacts _ _ _ _ _ hu) (fun e => ite_ne (by unfold mX3_nextFacts at e; exact e)) (Nat.zero_le _) rfl (fun v5 h6 => ?_)
      exact r_zW hx hR (dc kX3_more_0 30 rfl)
    · refine j_aload_n (q := 26) hx (dc kX3_more_0 13 rfl) rfl 0 rfl rfl ?_
      refine j_aload_n (q := 27) hx (dc kX3_more_0 14 rfl) rfl 0 rfl rfl ?_
      refine w_gI (q := 30) hx (dc kX3_more_0 15 rfl) ff_X3_3 lk_X3_21 rfl (fun v7 => ?_)
      refine j_aload_n (q := 31) hx (dc kX3_more_0 16 rfl) rfl 0 rfl rfl ?_
      refine w_gI (q := 34) hx (dc kX3_more_0 17 rfl) ff_X3_2 lk_X3_18 rfl (fun v8 => ?_)
      refine j_isub (q := 35) hx (dc kX3_more_0 18 rfl) rfl ?_
      refine j_aload_n (q := 36) hx (dc kX3_more_0 19 rfl) rfl 0 rfl rfl ?_
      refine w_gI (q := 39) hx (dc kX3_more_0 20 rfl) ff_X3_2 lk_X3_18 rfl (fun v9 => ?_)
      refine j_iand (q := 40) hx (dc kX3_more_0 21 rfl) rfl ?_
      refine w_sI (q := 43) hx (dc kX3_more_0 22 rfl) ff_X3_3 rfl lk_X3_21 (Or.inl rfl) rfl (fun h10 => ?_)
      refine j_iconst (q := 44) (v := (1 : Int32)) hx (dc kX3_more_0 23 rfl) (by decide) rfl ?_
      exact r_cW hx (Or.inr rfl) hR (dc kX3_more_0 24 rfl)
  · refine j_aload_n (q := 8) hx (dc kX3_more_0 3 rfl) rfl 0 rfl rfl ?_
    refine j_iconst (q := 9) (v := (1 : Int32)) hx (dc kX3_more_0 4 rfl) (by decide) rfl ?_
    refine w_sZ (q := 12) hx (dc kX3_more_0 5 rfl) ff_X3_4 rfl lk_X3_24 (Or.inl rfl) rfl (fun h11 => ?_)
    refine j_iconst (q := 13) (v := (1 : Int32)) hx (dc kX3_more_0 6 rfl) (by decide) rfl ?_
    exact r_cW hx (Or.inr rfl) hR (dc kX3_more_0 7 rfl)

set_option maxHeartbeats 4000000 in
set_option maxRecDepth 100000 in
theorem sX5_known (l : Launch) (w : Wd) (x0 : Nat) (h : Hp) (u : Int32) (hK : mX5_known x0 h = some u) : M1 l w mi_X5_known 1 [vR w x0] h h (some (.int u)) := by
  refine M1.of (own := RX5) (T := fun _ r => r = u) hK (by decide +kernel) rfl (by first | (simp only [lg_lenR, lg_lenI, lg_lenL, lg_len0]; decide) | decide) (fun x hx hnl hhf hl hw hret hnm hQ h0e => ⟨?_, rfl⟩)
  subst hw
  subst hl
  have hR : Rt x h h (some (.int u)) ((some .int)) := ⟨h0e, hhf, hret, hQ⟩
  have hn : ∀ i, i < 1 → i < x.2.2.1.1.1 := fun i hi => by rw [hnl]; exact hi
  have e0 : lv_args 0 [vR x.2.2.2 x0] = [(0, vR x.2.2.2 x0)] := by simp only [lv_argsR, lv_argsI, lv_argsL, lv_args0]
  rw [e0]
  unfold mX5_known
  refine J.ckd fun hk0 => ?_
  refine j_aload_n (q := 1) hx (dc kX5_known_0 0 rfl) rfl 0 rfl rfl ?_
  refine w_gI (q := 4) hx (dc kX5_known_0 1 rfl) ff_X5_4 lk_X5_44 rfl (fun v1 => ?_)
  refine j_aload_n (q := 5) hx (dc kX5_known_0 2 rfl) rfl 0 rfl rfl ?_
  refine w_gI (q := 8) hx (dc kX5_known_0 3 rfl) ff_X5_7 lk_X5_53 rfl (fun v2 => ?_)
  refine j_ior (q := 9) hx (dc kX5_known_0 4 rfl) rfl ?_
  exact r_iR hx hR (dc kX5_known_0 5 rfl)

set_option maxHeartbeats 4000000 in
set_option maxRecDepth 100000 in
theorem sX5_answered (l : Launch) (w : Wd) (x0 : Nat) (h : Hp) (u : Int32) (hK : mX5_answered x0 h = some u) : M1 l w mi_X5_answered 2 [vR w x0] h h (some (.int u)) := by
  refine M1.of (own := RX5) (T := fun _ r => r = u) hK (by decide +kernel) rfl (by first | (simp only [lg_lenR, lg_lenI, lg_lenL, lg_len0]; decide) | decide) (fun x hx hnl hhf hl hw hret hnm hQ h0e => ⟨?_, rfl⟩)
  subst hw
  subst hl
  have hR : Rt x h h (some (.int u)) ((some .int)) := ⟨h0e, hhf, hret, hQ⟩
  have hn : ∀ i, i < 1 → i < x.2.2.1.1.1 := fun i hi => by rw [hnl]; exact hi
  have e0 : lv_args 0 [vR x.2.2.2 x0] = [(0, vR x.2.2.2 x0)] := by simp only [lv_argsR, lv_argsI, lv_argsL, lv_args0]
  rw [e0]
  unfold mX5_answered
  refine J.ckd fun hk0 => ?_
  refine j_aload_n (q := 1) hx (dc kX5_answered_0 0 rfl) rfl 0 rfl rfl ?_
  refine w_gI (q := 4) hx (dc kX5_answered_0 1 rfl) ff_X5_4 lk_X5_44 rfl (fun v1 => ?_)
  refine j_aload_n (q := 5) hx (dc kX5_answered_0 2 rfl) rfl 0 rfl rfl ?_
  refine w_gI (q := 8) hx (dc kX5_answered_0 3 rfl) ff_X5_5 lk_X5_47 rfl (fun v2 => ?_)
  refine j_ior (q := 9) hx (dc kX5_answered_0 4 rfl) rfl ?_
  refine j_aload_n (q := 10) hx (dc kX5_answered_0 5 rfl) rfl 0 rfl rfl ?_
  refine w_gI (q := 13) hx (dc kX5_answered_0 6 rfl) ff_X5_6 lk_X5_50 rfl (fun v3 => ?_)
  refine j_ior (q := 14) hx (dc kX5_answered_0 7 rfl) rfl ?_
  refine j_aload_n (q := 15) hx (dc kX5_answered_0 8 rfl) rfl 0 rfl rfl ?_
  refine w_gI (q := 18) hx (dc kX5_answered_0 9 rfl) ff_X5_7 lk_X5_53 rfl (fun v4 => ?_)
  refine j_ior (q := 19) hx (dc kX5_answered_0 10 rfl) rfl ?_
  refine w_cSIR (q := 22) (As := [.int (((v1 ||| v2) ||| v3) ||| v4)]) (st := []) hx (dc kX5_answered_0 11 rfl) (cI _ my_J6_bitCount_0f7a4 lm_X5_63 (by decide)) st_J6_bitCount_0f7a4 rfl (fun u hu => sJ6_bitCount_0f7a4 _ _ _ _ _ hu) (Nat.zero_le _) rfl (fun v5 => ?_)
  exact r_iR hx hR (dc kX5_answered_0 12 rfl)

set_option maxHeartbeats 4000000 in
set_option maxRecDepth 100000 in
theorem sX5_howIs (l : Launch) (w : Wd) (x0 : Nat) (x1 : Int32) (h : Hp) (u : Int32) (hK : mX5_howIs x0 x1 h = some u) : M1 l w mi_X5_howIs 2 [vR w x0, .int x1] h h (some (.int u)) := by
  refine M1.of (own := RX5) (T := fun _ r => r = u) hK (by decide +kernel) rfl (by first | (simp only [lg_lenR, lg_lenI, lg_lenL, lg_len0]; decide) | decide) (fun x hx hnl hhf hl hw hret hnm hQ h0e => ⟨?_, rfl⟩)
  subst hw
  subst hl
  have hR : Rt x h h (some (.int u)) ((some .int)) := ⟨h0e, hhf, hret, hQ⟩
  have hn : ∀ i, i < 2 → i < x.2.2.1.1.1 := fun i hi => by rw [hnl]; exact hi
  have e0 : lv_args 0 [vR x.2.2.2 x0, .int x1] = [(0, vR x.2.2.2 x0), (1, .int x1)] := by simp only [lv_argsR, lv_argsI, lv_argsL, lv_args0]
  rw [e0]
  unfold mX5_howIs
  refine J.ckd fun hk0 => ?_
  refine j_aload_n (q := 1) hx (dc kX5_howIs_0 0 rfl) rfl 0 rfl rfl ?_
  refine w_gI (q := 4) hx (dc kX5_howIs_0 1 rfl) ff_X5_4 lk_X5_44 rfl (fun v1 => ?_)
  refine j_iload_n (q := 5) hx (dc kX5_howIs_0 2 rfl) rfl 1 rfl rfl ?_
  refine w_cSIR (q := 8) (As := [.int v1, .int x1]) (st := []) hx (dc kX5_howIs_0 3 rfl) (cI _ my_X11_has lm_X5_69 (by decide)) st_X11_has rfl (fun u hu => sX11_has _ _ _ _ _ _ hu) (Nat.zero_le _) rfl (fun v2 => ?_)
  refine j_if_eq (q := 11) (tgt := 13) hx (dc kX5_howIs_0 4 rfl) (by decide) Iff.rfl rfl ?_ ?_
  · refine j_aload_n (q := 14) hx (dc kX5_howIs_0 7 rfl) rfl 0 rfl rfl ?_
    refine w_gI (q := 17) hx (dc kX5_howIs_0 8 rfl) ff_X5_5 lk_X5_47 rfl (fun v4 => ?_)
    refine j_iload_n (q := 18) hx (dc kX5_howIs_0 9 rfl) rfl 1 rfl rfl ?_
    refine w_cSIR (q := 21) (As := [.int v4, .int x1]) (st := []) hx (dc kX5_howIs_0 10 rfl) (cI _ my_X11_has lm_X5_69 (by decide)) st_X11_has rfl (fun u hu => sX11_has _ _ _ _ _ _ hu) (Nat.zero_le _) rfl (fun v5 => ?_)
    refine j_if_eq (q := 24) (tgt := 26) hx (dc kX5_howIs_0 11 rfl) (by decide) Iff.rfl rfl ?_ ?_
    · refine j_aload_n (q := 27) hx (dc kX5_howIs_0 14 rfl) rfl 0 rfl rfl ?_
      refine w_gI (q := 30) hx (dc kX5_howIs_0 15 rfl) ff_X5_6 lk_X5_50 rfl (fun v7 => ?_)
      refine j_iload_n (q := 31) hx (dc kX5_howIs_0 16 rfl) rfl 1 rfl rfl ?_
      refine w_cSIR (q := 34) (As := [.int v7, .int x1]) (st := []) hx (dc kX5_howIs_0 17 rfl) (cI _ my_X11_has lm_X5_69 (by decide)) st_X11_has rfl (fun u hu => sX11_has _ _ _ _ _ _ hu) (Nat.zero_le _) rfl (fun v8 => ?_)
      refine j_if_eq (q := 37) (tgt := 39) hx (dc kX5_howIs_0 18 rfl) (by decide) Iff.rfl rfl ?_ ?_
      · refine j_aload_n (q := 40) hx (dc kX5_howIs_0 21 rfl) rfl 0 rfl rfl ?_
        refine w_gI (q := 43) hx (dc kX5_howIs_0 22 rfl) ff_X5_7 lk_X5_53 rfl (fun v10 => ?_)
        refine j_iload_n (q := 44) hx (dc kX5_howIs_0 23 rfl) rfl 1 rfl rfl ?_
        refine w_cSIR (q := 47) (As := [.int v10, .int x1]) (st := []) hx (dc kX5_howIs_0 24 rfl) (cI _ my_X11_has lm_X5_69 (by decide)) st_X11_has rfl (fun u hu => sX11_has _ _ _ _ _ _ hu) (Nat.zero_le _) rfl (fun v11 => ?_)
        refine j_if_eq (q := 50) (tgt := 54) hx (dc kX5_howIs_0 25 rfl) (by decide) Iff.rfl rfl ?_ ?_
        · refine j_iconst (q := 55) (v := (0 : Int32)) hx (dc kX5_howIs_0 28 rfl) (by decide) rfl ?_
          exact r_iR hx hR (dc kX5_howIs_0 29 rfl)
        · refine j_iconst (q := 51) (v := (4 : Int32)) hx (dc kX5_howIs_0 26 rfl) (by decide) rfl ?_
          refine j_goto (q := 55) hx (dc kX5_howIs_0 27 rfl) (by decide) ?_
          exact r_iR hx hR (dc kX5_howIs_0 29 rfl)
      · refine j_iconst (q := 38) (v := (3 : Int32)) hx (dc kX5_howIs_0 19 rfl) (by decide) rfl ?_
        exact r_iR hx hR (dc kX5_howIs_0 20 rfl)
    · refine j_iconst (q := 25) (v := (2 : Int32)) hx (dc kX5_howIs_0 12 rfl) (by decide) rfl ?_
      exact r_iR hx hR (dc kX5_howIs_0 13 rfl)
  · refine j_iconst (q := 12) (v := (1 : Int32)) hx (dc kX5_howIs_0 5 rfl) (by decide) rfl ?_
    exact r_iR hx hR (dc kX5_howIs_0 6 rfl)

set_option maxHeartbeats 4000000 in
set_option maxRecDepth 100000 in
theorem sX5_become (l : Launch) (w : Wd) (x0 : Nat) (x1 : Int32) (x2 : Int32) (x3 : Int32) (h : Hp) (u : Hp) (hK : mX5_become x0 x1 x2 x3 h = some u) : M1 l w mi_X5_become 1 [vR w x0, .int x1, .int x2, .int x3] h u (none) := by
  refine M1.of (own := RX5) (T := fun _ r => r = u) hK (by decide +kernel) rfl (by first | (simp only [lg_lenR, lg_lenI, lg_lenL, lg_len0]; decide) | decide) (fun x hx hnl hhf hl hw hret hnm hQ h0e => ⟨?_, rfl⟩)
  subst hw
  subst hl
  have hR : Rt x h u (none) (none) := ⟨h0e, hhf, hret, hQ⟩
  have hn : ∀ i, i < 6 → i < x.2.2.1.1.1 := fun i hi => by rw [hnl]; exact hi
  have e0 : lv_args 0 [vR x.2.2.2 x0, .int x1, .int x2, .int x3] = [(0, vR x.2.2.2 x0), (1, .int x1), (2, .int x2), (3, .int x3)] := by simp only [lv_argsR, lv_argsI, lv_argsL, lv_args0]
  rw [e0]
  have hb163 : ∀ (t0 : Nat) (t1 : Int32) (h : Hp), J x 163 [] [.int t1, vR x.2.2.2 t0] h (mX5_become_b163 t0 t1 h) (fun r => r = u) := by
    intro t0 t1 h
    unfold mX5_become_b163
    refine w_sI (q := 166) hx (dc kX5_become_1 30 rfl) ff_X5_8 rfl lk_X5_56 (Or.inl rfl) rfl (fun h10 => ?_)
    exact r_vW hx hR (dc kX5_become_1 31 rfl)
  have hb136 : ∀ (x0 : Nat) (x4 : Int32) (t0 : Int32) (h : Hp), J x 136 [(0, vR x.2.2.2 x0), (4, .int x4)] [.int t0] h (mX5_become_b136 x0 x4 t0 h) (fun r => r = u) := by
    intro x0 x4 t0 h
    unfold mX5_become_b136
    refine j_istore (q := 138) (i := 5) (l2 := [(0, vR x.2.2.2 x0), (4, .int x4)]) hx (dc kX5_become_1 15 rfl) (hn 5 (by decide)) [0, 1] rfl ⟨⟨show (0 : Nat) ≠ 5 by decide, Or.inl (show (0 : Nat) + 1 ≠ 5 by decide)⟩, ⟨⟨show (4 : Nat) ≠ 5 by decide, Or.inr rfl⟩, trivial⟩⟩ rfl ?_
    refine j_aload_n (q := 139) hx (dc kX5_become_1 16 rfl) rfl 1 rfl rfl ?_
    refine j_iload (q := 141) hx (dc kX5_become_1 17 rfl) 0 rfl rfl ?_
    refine j_if_eq (q := 144) (tgt := 154) hx (dc kX5_become_1 18 rfl) (by decide) Iff.rfl rfl ?_ ?_
    · refine j_aload_n (q := 155) hx (dc kX5_become_1 24 rfl) rfl 1 rfl rfl ?_
      refine w_gI (q := 158) hx (dc kX5_become_1 25 rfl) ff_X5_8 lk_X5_56 rfl (fun v9 => ?_)
      refine j_iload (q := 160) hx (dc kX5_become_1 26 rfl) 2 rfl rfl ?_
      refine j_iconst (q := 161) (v := (-1 : Int32)) hx (dc kX5_become_1 27 rfl) (by decide) rfl ?_
      refine j_ixor (q := 162) hx (dc kX5_become_1 28 rfl) rfl ?_
      refine j_iand (q := 163) hx (dc kX5_become_1 29 rfl) rfl ?_
      exact j_sub [] rfl (hb163 x0 (v9 &&& (x4 ^^^ (-1 : Int32))) h)
    · refine j_aload_n (q := 145) hx (dc kX5_become_1 19 rfl) rfl 1 rfl rfl ?_
      refine w_gI (q := 148) hx (dc kX5_become_1 20 rfl) ff_X5_8 lk_X5_56 rfl (fun v11 => ?_)
      refine j_iload (q := 150) hx (dc kX5_become_1 21 rfl) 2 rfl rfl ?_
      refine j_ior (q := 151) hx (dc kX5_become_1 22 rfl) rfl ?_
      refine j_goto (q := 163) hx (dc kX5_become_1 23 rfl) (by decide) ?_
      exact j_sub [] rfl (hb163 x0 (v11 ||| x4) h)
  have hb135 : ∀ (x0 : Nat) (x4 : Int32) (h : Hp), J x 135 [(0, vR x.2.2.2 x0), (4, .int x4)] [] h (mX5_become_b135 x0 x4 h) (fun r => r = u) := by
    intro x0 x4 h
    unfold mX5_become_b135
    refine j_iconst (q := 136) (v := (0 : Int32)) hx (dc kX5_become_1 14 rfl) (by decide) rfl ?_
    exact hb136 x0 x4 (0 : Int32) h
  have hb131 : ∀ (x0 : Nat) (x4 : Int32) (h : Hp), J x 131 [(0, vR x.2.2.2 x0), (4, .int x4)] [] h (mX5_become_b131 x0 x4 h) (fun r => r = u) := by
    intro x0 x4 h
    unfold mX5_become_b131
    refine j_iconst (q := 132) (v := (1 : Int32)) hx (dc kX5_become_1 12 rfl) (by decide) rfl ?_
    refine j_goto (q := 136) hx (dc kX5_become_1 13 rfl) (by decide) ?_
    exact hb136 x0 x4 (1 : Int32) h
  have hb114 : ∀ (x0 : Nat) (x2 : Int32) (x3 : Int32) (x4 : Int32) (t0 : Nat) (t1 : Int32) (h : Hp), J x 114 [(0, vR x.2.2.2 x0), (2, .int x2), (3, .int x3), (4, .int x4)] [.int t1, vR x.2.2.2 t0] h (mX5_become_b114 x0 x2 x3 x4 t0 t1 h) (fun r => r = u) := by
    intro x0 x2 x3 x4 t0 t1 h
    unfold mX5_become_b114
    refine w_sI (q := 117) hx (dc kX5_become_1 3 rfl) ff_X5_7 rfl lk_X5_53 (Or.inl rfl) rfl (fun h8 => ?_)
    refine j_iload_n (q := 118) hx (dc kX5_become_1 4 rfl) rfl 2 rfl rfl ?_
    refine j_if_eq (q := 121) (tgt := 135) hx (dc kX5_become_1 5 rfl) (by decide) Iff.rfl rfl ?_ ?_
    · exact j_sub [0, 3] rfl (hb135 x0 x4 h8)
    · refine j_iload_n (q := 122) hx (dc kX5_become_1 6 rfl) rfl 1 rfl rfl ?_
      refine j_iconst (q := 123) (v := (1 : Int32)) hx (dc kX5_become_1 7 rfl) (by decide) rfl ?_
      refine j_icmp_eq (q := 126) (tgt := 131) hx (dc kX5_become_1 8 rfl) (by decide) Iff.rfl rfl ?_ ?_
      · exact j_sub [0, 3] rfl (hb131 x0 x4 h8)
      · refine j_iload_n (q := 127) hx (dc kX5_become_1 9 rfl) rfl 1 rfl rfl ?_
        refine j_iconst (q := 128) (v := (4 : Int32)) hx (dc kX5_become_1 10 rfl) (by decide) rfl ?_
        refine j_icmp_neS (q := 131) (tgt := 135) hx (dc kX5_become_1 11 rfl) (by decide) rfl ?_ ?_
        · exact j_sub [0, 3] rfl (hb135 x0 x4 h8)
        · exact j_sub [0, 3] rfl (hb131 x0 x4 h8)
  have hb86 : ∀ (x0 : Nat) (x2 : Int32) (x3 : Int32) (x4 : Int32) (t0 : Nat) (t1 : Int32) (h : Hp), J x 86 [(0, vR x.2.2.2 x0), (2, .int x2), (3, .int x3), (4, .int x4)] [.int t1, vR x.2.2.2 t0] h (mX5_become_b86 x0 x2 x3 x4 t0 t1 h) (fun r => r = u) := by
    intro x0 x2 x3 x4 t0 t1 h
    unfold mX5_become_b86
    refine w_sI (q := 89) hx (dc kX5_become_0 51 rfl) ff_X5_6 rfl lk_X5_50 (Or.inl rfl) rfl (fun h6 => ?_)
    refine j_aload_n (q := 90) hx (dc kX5_become_0 52 rfl) rfl 0 rfl rfl ?_
    refine j_iload_n (q := 91) hx (dc kX5_become_0 53 rfl) rfl 1 rfl rfl ?_
    refine j_iconst (q := 92) (v := (4 : Int32)) hx (dc kX5_become_0 54 rfl) (by decide) rfl ?_
    refine j_icmp_neS (q := 95) (tgt := 105) hx (dc kX5_become_0 55 rfl) (by decide) rfl ?_ ?_
    · refine j_aload_n (q := 106) hx (dc kX5_become_0 61 rfl) rfl 0 rfl rfl ?_
      refine w_gI (q := 109) hx (dc kX5_become_0 62 rfl) ff_X5_7 lk_X5_53 rfl (fun v7 => ?_)
      refine j_iload (q := 111) hx (dc kX5_become_0 63 rfl) 3 rfl rfl ?_
      refine j_iconst (q := 112) (v := (-1 : Int32)) hx (dc kX5_become_1 0 rfl) (by decide) rfl ?_
      refine j_ixor (q := 113) hx (dc kX5_become_1 1 rfl) rfl ?_
      refine j_iand (q := 114) hx (dc kX5_become_1 2 rfl) rfl ?_
      exact hb114 x0 x2 x3 x4 x0 (v7 &&& (x4 ^^^ (-1 : Int32))) h6
    · refine j_aload_n (q := 96) hx (dc kX5_become_0 56 rfl) rfl 0 rfl rfl ?_
      refine w_gI (q := 99) hx (dc kX5_become_0 57 rfl) ff_X5_7 lk_X5_53 rfl (fun v12 => ?_)
      refine j_iload (q := 101) hx (dc kX5_become_0 58 rfl) 3 rfl rfl ?_
      refine j_ior (q := 102) hx (dc kX5_become_0 59 rfl) rfl ?_
      refine j_goto (q := 114) hx (dc kX5_become_0 60 rfl) (by decide) ?_
      exact hb114 x0 x2 x3 x4 x0 (v12 ||| x4) h6
  have hb58 : ∀ (x0 : Nat) (x2 : Int32) (x3 : Int32) (x4 : Int32) (t0 : Nat) (t1 : Int32) (h : Hp), J x 58 [(0, vR x.2.2.2 x0), (2, .int x2), (3, .int x3), (4, .int x4)] [.int t1, vR x.2.2.2 t0] h (mX5_become_b58 x0 x2 x3 x4 t0 t1 h) (fun r => r = u) := by
    intro x0 x2 x3 x4 t0 t1 h
    unfold mX5_become_b58
    refine w_sI (q := 61) hx (dc kX5_become_0 35 rfl) ff_X5_5 rfl lk_X5_47 (Or.inl rfl) rfl (fun h4 => ?_)
    refine j_aload_n (q := 62) hx (dc kX5_become_0 36 rfl) rfl 0 rfl rfl ?_
    refine j_iload_n (q := 63) hx (dc kX5_become_0 37 rfl) rfl 1 rfl rfl ?_
    refine j_iconst (q := 64) (v := (3 : Int32)) hx (dc kX5_become_0 38 rfl) (by decide) rfl ?_
    refine j_icmp_neS (q := 67) (tgt := 77) hx (dc kX5_become_0 39 rfl) (by decide) rfl ?_ ?_
    · refine j_aload_n (q := 78) hx (dc kX5_become_0 45 rfl) rfl 0 rfl rfl ?_
      refine w_gI (q := 81) hx (dc kX5_become_0 46 rfl) ff_X5_6 lk_X5_50 rfl (fun v5 => ?_)
      refine j_iload (q := 83) hx (dc kX5_become_0 47 rfl) 3 rfl rfl ?_
      refine j_iconst (q := 84) (v := (-1 : Int32)) hx (dc kX5_become_0 48 rfl) (by decide) rfl ?_
      refine j_ixor (q := 85) hx (dc kX5_become_0 49 rfl) rfl ?_
      refine j_iand (q := 86) hx (dc kX5_become_0 50 rfl) rfl ?_
      exact hb86 x0 x2 x3 x4 x0 (v5 &&& (x4 ^^^ (-1 : Int32))) h4
    · refine j_aload_n (q := 68) hx (dc kX5_become_0 40 rfl) rfl 0 rfl rfl ?_
      refine w_gI (q := 71) hx (dc kX5_become_0 41 rfl) ff_X5_6 lk_X5_50 rfl (fun v13 => ?_)
      refine j_iload (q := 73) hx (dc kX5_become_0 42 rfl) 3 rfl rfl ?_
      refine j_ior (q := 74) hx (dc kX5_become_0 43 rfl) rfl ?_
      refine j_goto (q := 86) hx (dc kX5_become_0 44 rfl) (by decide) ?_
      exact hb86 x0 x2 x3 x4 x0 (v13 ||| x4) h4
  have hb30 : ∀ (x0 : Nat) (x2 : Int32) (x3 : Int32) (x4 : Int32) (t0 : Nat) (t1 : Int32) (h : Hp), J x 30 [(0, vR x.2.2.2 x0), (2, .int x2), (3, .int x3), (4, .int x4)] [.int t1, vR x.2.2.2 t0] h (mX5_become_b30 x0 x2 x3 x4 t0 t1 h) (fun r => r = u) := by
    intro x0 x2 x3 x4 t0 t1 h
    unfold mX5_become_b30
    refine w_sI (q := 33) hx (dc kX5_become_0 19 rfl) ff_X5_4 rfl lk_X5_44 (Or.inl rfl) rfl (fun h2 => ?_)
    refine j_aload_n (q := 34) hx (dc kX5_become_0 20 rfl) rfl 0 rfl rfl ?_
    refine j_iload_n (q := 35) hx (dc kX5_become_0 21 rfl) rfl 1 rfl rfl ?_
    refine j_iconst (q := 36) (v := (2 : Int32)) hx (dc kX5_become_0 22 rfl) (by decide) rfl ?_
    refine j_icmp_neS (q := 39) (tgt := 49) hx (dc kX5_become_0 23 rfl) (by decide) rfl ?_ ?_
    · refine j_aload_n (q := 50) hx (dc kX5_become_0 29 rfl) rfl 0 rfl rfl ?_
      refine w_gI (q := 53) hx (dc kX5_become_0 30 rfl) ff_X5_5 lk_X5_47 rfl (fun v3 => ?_)
      refine j_iload (q := 55) hx (dc kX5_become_0 31 rfl) 3 rfl rfl ?_
      refine j_iconst (q := 56) (v := (-1 : Int32)) hx (dc kX5_become_0 32 rfl) (by decide) rfl ?_
      refine j_ixor (q := 57) hx (dc kX5_become_0 33 rfl) rfl ?_
      refine j_iand (q := 58) hx (dc kX5_become_0 34 rfl) rfl ?_
      exact hb58 x0 x2 x3 x4 x0 (v3 &&& (x4 ^^^ (-1 : Int32))) h2
    · refine j_aload_n (q := 40) hx (dc kX5_become_0 24 rfl) rfl 0 rfl rfl ?_
      refine w_gI (q := 43) hx (dc kX5_become_0 25 rfl) ff_X5_5 lk_X5_47 rfl (fun v14 => ?_)
      refine j_iload (q := 45) hx (dc kX5_become_0 26 rfl) 3 rfl rfl ?_
      refine j_ior (q := 46) hx (dc kX5_become_0 27 rfl) rfl ?_
      refine j_goto (q := 58) hx (dc kX5_become_0 28 rfl) (by decide) ?_
      exact hb58 x0 x2 x3 x4 x0 (v14 ||| x4) h2
  unfold mX5_become
  refine J.ckd fun hk0 => ?_
  refine j_iconst (q := 1) (v := (1 : Int32)) hx (dc kX5_become_0 0 rfl) (by decide) rfl ?_
  refine j_iload_n (q := 2) hx (dc kX5_become_0 1 rfl) rfl 1 rfl rfl ?_
  refine j_ishl (q := 3) hx (dc kX5_become_0 2 rfl) rfl ?_
  refine j_istore (q := 5) (i := 4) (l2 := [(0, vR x.2.2.2 x0), (2, .int x2), (3, .int x3)]) hx (dc kX5_become_0 3 rfl) (hn 4 (by decide)) [0, 2, 3] rfl ⟨⟨show (0 : Nat) ≠ 4 by decide, Or.inl (show (0 : Nat) + 1 ≠ 4 by decide)⟩, ⟨⟨show (2 : Nat) ≠ 4 by decide, Or.inl (show (2 : Nat) + 1 ≠ 4 by decide)⟩, ⟨⟨show (3 : Nat) ≠ 4 by decide, Or.inr rfl⟩, trivial⟩⟩⟩ rfl ?_
  refine j_aload_n (q := 6) hx (dc kX5_become_0 4 rfl) rfl 1 rfl rfl ?_
  refine j_iload_n (q := 7) hx (dc kX5_become_0 5 rfl) rfl 2 rfl rfl ?_
  refine j_iconst (q := 8) (v := (1 : Int32)) hx (dc kX5_become_0 6 rfl) (by decide) rfl ?_
  refine j_icmp_neS (q := 11) (tgt := 21) hx (dc kX5_become_0 7 rfl) (by decide) rfl ?_ ?_
  · refine j_aload_n (q := 22) hx (dc kX5_become_0 13 rfl) rfl 1 rfl rfl ?_
    refine w_gI (q := 25) hx (dc kX5_become_0 14 rfl) ff_X5_4 lk_X5_44 rfl (fun v1 => ?_)
    refine j_iload (q := 27) hx (dc kX5_become_0 15 rfl) 0 rfl rfl ?_
    refine j_iconst (q := 28) (v := (-1 : Int32)) hx (dc kX5_become_0 16 rfl) (by decide) rfl ?_
    refine j_ixor (q := 29) hx (dc kX5_become_0 17 rfl) rfl ?_
    refine j_iand (q := 30) hx (dc kX5_become_0 18 rfl) rfl ?_
    exact j_sub [1, 2, 3, 0] rfl (hb30 x0 x2 x3 ((1 : Int32) <<< (x1 &&& 31)) x0 (v1 &&& (((1 : Int32) <<< (x1 &&& 31)) ^^^ (-1 : Int32))) h)
  · refine j_aload_n (q := 12) hx (dc kX5_become_0 8 rfl) rfl 1 rfl rfl ?_
    refine w_gI (q := 15) hx (dc kX5_become_0 9 rfl) ff_X5_4 lk_X5_44 rfl (fun v15 => ?_)
    refine j_iload (q := 17) hx (dc kX5_become_0 10 rfl) 0 rfl rfl ?_
    refine j_ior (q := 18) hx (dc kX5_become_0 11 rfl) rfl ?_
    refine j_goto (q := 30) hx (dc kX5_become_0 12 rfl) (by decide) ?_
    exact j_sub [1, 2, 3, 0] rfl (hb30 x0 x2 x3 ((1 : Int32) <<< (x1 &&& 31)) x0 (v15 ||| ((1 : Int32) <<< (x1 &&& 31))) h)

set_option maxHeartbeats 4000000 in
set_option maxRecDepth 100000 in
theorem sX5_sayers (l : Launch) (w : Wd) (x0 : Nat) (x1 : Int32) (h : Hp) (u : Int32) (hK : mX5_sayers x0 x1 h = some u) : M1 l w mi_X5_sayers 2 [vR w x0, .int x1] h h (some (.int u)) := by
  refine M1.of (own := RX5) (T := fun _ r => r = u) hK (by decide +kernel) rfl (by first | (simp only [lg_lenR, lg_lenI, lg_lenL, lg_len0]; decide) | decide) (fun x hx hnl hhf hl hw hret hnm hQ h0e => ⟨?_, rfl⟩)
  subst hw
  subst hl
  have hR : Rt x h h (some (.int u)) ((some .int)) := ⟨h0e, hhf, hret, hQ⟩
  have hn : ∀ i, i < 4 → i < x.2.2.1.1.1 := fun i hi => by rw [hnl]; exact hi
  have e0 : lv_args 0 [vR x.2.2.2 x0, .int x1] = [(0, vR x.2.2.2 x0), (1, .int x1)] := by simp only [lv_argsR, lv_argsI, lv_argsL, lv_args0]
  rw [e0]
  have hb4 : ∀ (x0 : Nat) (x1 : Int32) (x2 : Int32) (x3 : Int32), J x 4 [(0, vR x.2.2.2 x0), (1, .int x1), (2, .int x2), (3, .int x3)] [] h (mX5_sayers_l4 x0 x1 x2 x3 h) (fun r => r = u) := by
    intro x0 x1 x2 x3
    have hB : ∀ (x2 : Int32) (x3 : Int32), J x 4 [(0, vR x.2.2.2 x0), (1, .int x1), (2, .int x2), (3, .int x3)] [] h (mX5_sayers_l4f x0 x1 h x2 x3) (TL (S := (Int32 × Int32)) x 4 (fun s => [(0, vR x.2.2.2 x0), (1, .int x1), (2, .int s.1), (3, .int s.2)]) [] (fun s => h) (fun r => r = u)) := by
      intro x2 x3
      have hb33 : ∀ (x0 : Nat) (x1 : Int32) (x2 : Int32) (x3 : Int32), J x 33 [(0, vR x.2.2.2 x0), (1, .int x1), (2, .int x2), (3, .int x3)] [] h (mX5_sayers_b33 x0 x1 x2 x3 h) (TL (S := (Int32 × Int32)) x 4 (fun s => [(0, vR x.2.2.2 x0), (1, .int x1), (2, .int s.1), (3, .int s.2)]) [] (fun s => h) (fun r => r = u)) := by
        intro x0 x1 x2 x3
        unfold mX5_sayers_b33
        refine j_iinc (q := 36) (l2 := [(0, vR x.2.2.2 x0), (1, .int x1), (2, .int x2)]) hx (dc kX5_sayers_0 21 rfl) 3 rfl (v := (1 : Int32)) (by decide) (hn 3 (by decide)) [0, 1, 2] rfl ⟨⟨show (0 : Nat) ≠ 3 by decide, Or.inl (show (0 : Nat) + 1 ≠ 3 by decide)⟩, ⟨⟨show (1 : Nat) ≠ 3 by decide, Or.inl (show (1 : Nat) + 1 ≠ 3 by decide)⟩, ⟨⟨show (2 : Nat) ≠ 3 by decide, Or.inr rfl⟩, trivial⟩⟩⟩ rfl ?_
        refine j_goto (q := 4) hx (dc kX5_sayers_0 22 rfl) (by decide) ?_
        exact j_back [1, 2, 3, 0] (x2, (x3 + (1 : Int32))) rfl rfl
      unfold mX5_sayers_l4f
      refine j_iload_n (q := 5) hx (dc kX5_sayers_0 4 rfl) rfl 3 rfl rfl ?_
      refine j_aload_n (q := 6) hx (dc kX5_sayers_0 5 rfl) rfl 0 rfl rfl ?_
      refine w_gI (q := 9) hx (dc kX5_sayers_0 6 rfl) ff_X5_2 lk_X5_38 rfl (fun v1 => ?_)
      refine j_icmp_geS (q := 12) (tgt := 39) hx (dc kX5_sayers_0 7 rfl) (by decide) rfl ?_ ?_
      · refine j_exit ?_
        refine j_iload_n (q := 40) hx (dc kX5_sayers_0 23 rfl) rfl 2 rfl rfl ?_
        exact r_iR hx hR (dc kX5_sayers_0 24 rfl)
      · refine j_aload_n (q := 13) hx (dc kX5_sayers_0 8 rfl) rfl 0 rfl rfl ?_
        refine w_gR (q := 16) hx (dc kX5_sayers_0 9 rfl) ff_X5_13 lk_X5_24 rfl (fun v2 => ?_)
        refine j_iload_n (q := 17) hx (dc kX5_sayers_0 10 rfl) rfl 3 rfl rfl ?_
        refine w_cSIR (q := 20) (As := [vR x.2.2.2 v2, .int x3]) (st := []) hx (dc kX5_sayers_0 11 rfl) (cI _ my_X11_at lm_X5_73 (by decide)) st_X11_at rfl (fun u hu => sX11_at _ _ _ _ _ _ hu) (Nat.zero_le _) rfl (fun v3 => ?_)
        refine j_iload_n (q := 21) hx (dc kX5_sayers_0 12 rfl) rfl 1 rfl rfl ?_
        refine w_cSIR (q := 24) (As := [.int v3, .int x1]) (st := []) hx (dc kX5_sayers_0 13 rfl) (cI _ my_X11_has lm_X5_69 (by decide)) st_X11_has rfl (fun u hu => sX11_has _ _ _ _ _ _ hu) (Nat.zero_le _) rfl (fun v5 => ?_)
        refine j_if_eq (q := 27) (tgt := 33) hx (dc kX5_sayers_0 14 rfl) (by decide) Iff.rfl rfl ?_ ?_
        · exact hb33 x0 x1 x2 x3
        · refine j_iload_n (q := 28) hx (dc kX5_sayers_0 15 rfl) rfl 2 rfl rfl ?_
          refine j_iconst (q := 29) (v := (1 : Int32)) hx (dc kX5_sayers_0 16 rfl) (by decide) rfl ?_
          refine j_iload_n (q := 30) hx (dc kX5_sayers_0 17 rfl) rfl 3 rfl rfl ?_
          refine j_ishl (q := 31) hx (dc kX5_sayers_0 18 rfl) rfl ?_
          refine j_ior (q := 32) hx (dc kX5_sayers_0 19 rfl) rfl ?_
          refine j_istore_n (q := 33) (i := 2) (l2 := [(0, vR x.2.2.2 x0), (1, .int x1), (3, .int x3)]) hx (dc kX5_sayers_0 20 rfl) rfl (hn 2 (by decide)) [0, 1, 3] rfl ⟨⟨show (0 : Nat) ≠ 2 by decide, Or.inl (show (0 : Nat) + 1 ≠ 2 by decide)⟩, ⟨⟨show (1 : Nat) ≠ 2 by decide, Or.inr rfl⟩, ⟨⟨show (3 : Nat) ≠ 2 by decide, Or.inl (show (3 : Nat) + 1 ≠ 2 by decide)⟩, trivial⟩⟩⟩ rfl ?_
          exact j_sub [1, 2, 0, 3] rfl (hb33 x0 x1 (x2 ||| ((1 : Int32) <<< (x3 &&& 31))) x3)
    exact j_loop (S := (Int32 × Int32)) (lvf := fun s => [(0, vR x.2.2.2 x0), (1, .int x1), (2, .int s.1), (3, .int s.2)]) (hpf := fun s => h) (f := (fun s : (Int32 × Int32) => mX5_sayers_l4f x0 x1 h s.1 s.2)) (fun s => hB s.1 s.2) (x2, x3)
  unfold mX5_sayers
  refine J.ckd fun hk0 => ?_
  refine j_iconst (q := 1) (v := (0 : Int32)) hx (dc kX5_sayers_0 0 rfl) (by decide) rfl ?_
  refine j_istore_n (q := 2) (i := 2) (l2 := [(0, vR x.2.2.2 x0), (1, .int x1)]) hx (dc kX5_sayers_0 1 rfl) rfl (hn 2 (by decide)) [0, 1] rfl ⟨⟨show (0 : Nat) ≠ 2 by decide, Or.inl (show (0 : Nat) + 1 ≠ 2 by decide)⟩, ⟨⟨show (1 : Nat) ≠ 2 by decide, Or.inr rfl⟩, trivial⟩⟩ rfl ?_
  refine j_iconst (q := 3) (v := (0 : Int32)) hx (dc kX5_sayers_0 2 rfl) (by decide) rfl ?_
  refine j_istore_n (q := 4) (i := 3) (l2 := [(2, .int (0 : Int32)), (0, vR x.2.2.2 x0), (1, .int x1)]) hx (dc kX5_sayers_0 3 rfl) rfl (hn 3 (by decide)) [0, 1, 2] rfl ⟨⟨show (2 : Nat) ≠ 3 by decide, Or.inr rfl⟩, ⟨⟨show (0 : Nat) ≠ 3 by decide, Or.inl (show (0 : Nat) + 1 ≠ 3 by decide)⟩, ⟨⟨show (1 : Nat) ≠ 3 by decide, Or.inl (show (1 : Nat) + 1 ≠ 3 by decide)⟩, trivial⟩⟩⟩ rfl ?_
  exact j_sub [2, 3, 1, 0] rfl (hb4 x0 x1 (0 : Int32) (0 : Int32))

set_option maxHeartbeats 4000000 in
set_option maxRecDepth 100000 in
theorem sX5_firstSayer (l : Launch) (w : Wd) (x0 : Nat) (x1 : Int32) (h : Hp) (u : Int32) (hK : mX5_firstSayer x0 x1 h = some u) : M1 l w mi_X5_firstSayer 2 [vR w x0, .int x1] h h (some (.int u)) := by
  refine M1.of (own := RX5) (T := fun _ r => r = u) hK (by decide +kernel) rfl (by first | (simp only [lg_lenR, lg_lenI, lg_lenL, lg_len0]; decide) | decide) (fun x hx hnl hhf hl hw hret hnm hQ h0e => ⟨?_, rfl⟩)
  subst hw
  subst hl
  have hR : Rt x h h (some (.int u)) ((some .int)) := ⟨h0e, hhf, hret, hQ⟩
  have hn : ∀ i, i < 3 → i < x.2.2.1.1.1 := fun i hi => by rw [hnl]; exact hi
  have e0 : lv_args 0 [vR x.2.2.2 x0, .int x1] = [(0, vR x.2.2.2 x0), (1, .int x1)] := by simp only [lv_argsR, lv_argsI, lv_argsL, lv_args0]
  rw [e0]
  have hb2 : ∀ (x0 : Nat) (x1 : Int32) (x2 : Int32), J x 2 [(0, vR x.2.2.2 x0), (1, .int x1), (2, .int x2)] [] h (mX5_firstSayer_l2 x0 x1 x2 h) (fun r => r = u) := by
    intro x0 x1 x2
    have hB : ∀ (x2 : Int32), J x 2 [(0, vR x.2.2.2 x0), (1, .int x1), (2, .int x2)] [] h (mX5_firstSayer_l2f x0 x1 h x2) (TL (S := Int32) x 2 (fun s => [(0, vR x.2.2.2 x0), (1, .int x1), (2, .int s)]) [] (fun s => h) (fun r => r = u)) := by
      intro x2
      have hb38 : ∀ (x0 : Nat) (x1 : Int32) (x2 : Int32), J x 38 [(0, vR x.2.2.2 x0), (1, .int x1), (2, .int x2)] [] h (mX5_firstSayer_b38 x0 x1 x2 h) (TL (S := Int32) x 2 (fun s => [(0, vR x.2.2.2 x0), (1, .int x1), (2, .int s)]) [] (fun s => h) (fun r => r = u)) := by
        intro x0 x1 x2
        unfold mX5_firstSayer_b38
        refine j_iinc (q := 41) (l2 := [(0, vR x.2.2.2 x0), (1, .int x1)]) hx (dc kX5_firstSayer_0 20 rfl) 2 rfl (v := (1 : Int32)) (by decide) (hn 2 (by decide)) [0, 1] rfl ⟨⟨show (0 : Nat) ≠ 2 by decide, Or.inl (show (0 : Nat) + 1 ≠ 2 by decide)⟩, ⟨⟨show (1 : Nat) ≠ 2 by decide, Or.inr rfl⟩, trivial⟩⟩ rfl ?_
        refine j_goto (q := 2) hx (dc kX5_firstSayer_0 21 rfl) (by decide) ?_
        exact j_back [1, 2, 0] (x2 + (1 : Int32)) rfl rfl
      unfold mX5_firstSayer_l2f
      refine j_iload_n (q := 3) hx (dc kX5_firstSayer_0 2 rfl) rfl 2 rfl rfl ?_
      refine j_aload_n (q := 4) hx (dc kX5_firstSayer_0 3 rfl) rfl 0 rfl rfl ?_
      refine w_gI (q := 7) hx (dc kX5_firstSayer_0 4 rfl) ff_X5_2 lk_X5_38 rfl (fun v1 => ?_)
      refine j_icmp_geS (q := 10) (tgt := 44) hx (dc kX5_firstSayer_0 5 rfl) (by decide) rfl ?_ ?_
      · refine j_exit ?_
        refine j_iconst (q := 45) (v := (-1 : Int32)) hx (dc kX5_firstSayer_0 22 rfl) (by decide) rfl ?_
        exact r_iR hx hR (dc kX5_firstSayer_0 23 rfl)
      · refine j_aload_n (q := 11) hx (dc kX5_firstSayer_0 6 rfl) rfl 0 rfl rfl ?_
        refine w_gR (q := 14) hx (dc kX5_firstSayer_0 7 rfl) ff_X5_13 lk_X5_24 rfl (fun v2 => ?_)
        refine j_iload_n (q := 15) hx (dc kX5_firstSayer_0 8 rfl) rfl 2 rfl rfl ?_
        refine w_cSIR (q := 18) (As := [vR x.2.2.2 v2, .int x2]) (st := []) hx (dc kX5_firstSayer_0 9 rfl) (cI _ my_X11_at lm_X5_73 (by decide)) st_X11_at rfl (fun u hu => sX11_at _ _ _ _ _ _ hu) (Nat.zero_le _) rfl (fun v3 => ?_)
        refine j_iload_n (q := 19) hx (dc kX5_firstSayer_0 10 rfl) rfl 1 rfl rfl ?_
        refine w_cSIR (q := 22) (As := [.int v3, .int x1]) (st := []) hx (dc kX5_firstSayer_0 11 rfl) (cI _ my_X11_has lm_X5_69 (by decide)) st_X11_has rfl (fun u hu => sX11_has _ _ _ _ _ _ hu) (Nat.zero_le _) rfl (fun v5 => ?_)
        refine j_if_eq (q := 25) (tgt := 38) hx (dc kX5_firstSayer_0 12 rfl) (by decide) Iff.rfl rfl ?_ ?_
        · exact hb38 x0 x1 x2
        · refine j_aload_n (q := 26) hx (dc kX5_firstSayer_0 13 rfl) rfl 0 rfl rfl ?_
          refine w_gI (q := 29) hx (dc kX5_firstSayer_0 14 rfl) ff_X5_3 lk_X5_41 rfl (fun v7 => ?_)
          refine j_iload_n (q := 30) hx (dc kX5_firstSayer_0 15 rfl) rfl 2 rfl rfl ?_
          refine w_cSIR (q := 33) (As := [.int v7, .int x2]) (st := []) hx (dc kX5_firstSayer_0 16 rfl) (cI _ my_X11_has lm_X5_69 (by decide)) st_X11_has rfl (fun u hu => sX11_has _ _ _ _ _ _ hu) (Nat.zero_le _) rfl (fun v8 => ?_)
          refine j_if_neS (q := 36) (tgt := 38) hx (dc kX5_firstSayer_0 17 rfl) (by decide) rfl ?_ ?_
          · exact hb38 x0 x1 x2
          · refine j_exit ?_
            refine j_iload_n (q := 37) hx (dc kX5_firstSayer_0 18 rfl) rfl 2 rfl rfl ?_
            exact r_iR hx hR (dc kX5_firstSayer_0 19 rfl)
    exact j_loop (S := Int32) (lvf := fun s => [(0, vR x.2.2.2 x0), (1, .int x1), (2, .int s)]) (hpf := fun s => h) (f := (fun s : Int32 => mX5_firstSayer_l2f x0 x1 h s)) (fun s => hB s) x2
  unfold mX5_firstSayer
  refine J.ckd fun hk0 => ?_
  refine j_iconst (q := 1) (v := (0 : Int32)) hx (dc kX5_firstSayer_0 0 rfl) (by decide) rfl ?_
  refine j_istore_n (q := 2) (i := 2) (l2 := [(0, vR x.2.2.2 x0), (1, .int x1)]) hx (dc kX5_firstSayer_0 1 rfl) rfl (hn 2 (by decide)) [0, 1] rfl ⟨⟨show (0 : Nat) ≠ 2 by decide, Or.inl (show (0 : Nat) + 1 ≠ 2 by decide)⟩, ⟨⟨show (1 : Nat) ≠ 2 by decide, Or.inr rfl⟩, trivial⟩⟩ rfl ?_
  exact j_sub [1, 2, 0] rfl (hb2 x0 x1 (0 : Int32))

set_option maxHeartbeats 4000000 in
set_option maxRecDepth 100000 in
theorem sX6_clear (l : Launch) (w : Wd) (x0 : Nat) (h : Hp) (u : Hp) (hK : mX6_clear x0 h = some u) : M1 l w mi_X6_clear 2 [vR w x0] h u (none) := by
  refine M1.of (own := RX6) (T := fun _ r => r = u) hK (by decide +kernel) rfl (by first | (simp only [lg_lenR, lg_lenI, lg_lenL, lg_len0]; decide) | decide) (fun x hx hnl hhf hl hw hret hnm hQ h0e => ⟨?_, rfl⟩)
  subst hw
  subst hl
  have hR : Rt x h u (none) (none) := ⟨h0e, hhf, hret, hQ⟩
  have hn : ∀ i, i < 1 → i < x.2.2.1.1.1 := fun i hi => by rw [hnl]; exact hi
  have e0 : lv_args 0 [vR x.2.2.2 x0] = [(0, vR x.2.2.2 x0)] := by simp only [lv_argsR, lv_argsI, lv_argsL, lv_args0]
  rw [e0]
  unfold mX6_clear
  refine J.ckd fun hk0 => ?_
  refine j_aload_n (q := 1) hx (dc kX6_clear_0 0 rfl) rfl 0 rfl rfl ?_
  refine j_iconst (q := 2) (v := (0 : Int32)) hx (dc kX6_clear_0 1 rfl) (by decide) rfl ?_
  refine w_sI (q := 5) hx (dc kX6_clear_0 2 rfl) ff_X6_5 rfl lk_X6_28 (Or.inl rfl) rfl (fun h1 => ?_)
  refine j_aload_n (q := 6) hx (dc kX6_clear_0 3 rfl) rfl 0 rfl rfl ?_
  refine w_gR (q := 9) hx (dc kX6_clear_0 4 rfl) ff_X6_4 lk_X6_25 rfl (fun v2 => ?_)
  refine w_cSVW (q := 12) (As := [vR x.2.2.2 v2]) (st := []) hx (dc kX6_clear_0 5 rfl) (cI _ my_X11_wipe lm_X6_32 (by decide)) st_X11_wipe rfl (fun u hu => sX11_wipe _ _ _ _ _ hu) (Nat.zero_le _) rfl (fun h4 => ?_)
  exact r_vW hx hR (dc kX6_clear_0 6 rfl)

set_option maxHeartbeats 4000000 in
set_option maxRecDepth 100000 in
theorem sX6_enter (l : Launch) (w : Wd) (x0 : Nat) (x1 : Int32) (x2 : Int32) (x3 : Int32) (h : Hp) (u : Hp) (hK : mX6_enter x0 x1 x2 x3 h = some u) : M1 l w mi_X6_enter 2 [vR w x0, .int x1, .int x2, .int x3] h u (none) := by
  refine M1.of (own := RX6) (T := fun _ r => r = u) hK (by decide +kernel) rfl (by first | (simp only [lg_lenR, lg_lenI, lg_lenL, lg_len0]; decide) | decide) (fun x hx hnl hhf hl hw hret hnm hQ h0e => ⟨?_, rfl⟩)
  subst hw
  subst hl
  have hR : Rt x h u (none) (none) := ⟨h0e, hhf, hret, hQ⟩
  have hn : ∀ i, i < 5 → i < x.2.2.1.1.1 := fun i hi => by rw [hnl]; exact hi
  have e0 : lv_args 0 [vR x.2.2.2 x0, .int x1, .int x2, .int x3] = [(0, vR x.2.2.2 x0), (1, .int x1), (2, .int x2), (3, .int x3)] := by simp only [lv_argsR, lv_argsI, lv_argsL, lv_args0]
  rw [e0]
  have hb85 : ∀ (x0 : Nat) (x3 : Int32) (x4 : Int32) (h : Hp), J x 85 [(0, vR x.2.2.2 x0), (3, .int x3), (4, .int x4)] [] h (mX6_enter_b85 x0 x3 x4 h) (fun r => r = u) := by
    intro x0 x3 x4 h
    unfold mX6_enter_b85
    refine j_aload_n (q := 86) hx (dc kX6_enter_0 44 rfl) rfl 0 rfl rfl ?_
    refine w_gR (q := 89) hx (dc kX6_enter_0 45 rfl) ff_X6_1 lk_X6_15 rfl (fun v4 => ?_)
    refine j_iload (q := 91) hx (dc kX6_enter_0 46 rfl) 2 rfl rfl ?_
    refine j_aload_n (q := 92) hx (dc kX6_enter_0 47 rfl) rfl 0 rfl rfl ?_
    refine w_gR (q := 95) hx (dc kX6_enter_0 48 rfl) ff_X6_1 lk_X6_15 rfl (fun v5 => ?_)
    refine j_iload (q := 97) hx (dc kX6_enter_0 49 rfl) 2 rfl rfl ?_
    refine w_cSIR (q := 100) (As := [vR x.2.2.2 v5, .int x4]) (st := [.int x4, vR x.2.2.2 v4]) hx (dc kX6_enter_0 50 rfl) (cI _ my_X11_at lm_X6_36 (by decide)) st_X11_at rfl (fun u hu => sX11_at _ _ _ _ _ _ hu) (sum_le (sum_I (sum_R sum_nil)) (by decide)) rfl (fun v6 => ?_)
    refine j_iconst (q := 101) (v := (1 : Int32)) hx (dc kX6_enter_0 51 rfl) (by decide) rfl ?_
    refine j_iadd (q := 102) hx (dc kX6_enter_0 52 rfl) rfl ?_
    refine w_cSVW (q := 105) (As := [vR x.2.2.2 v4, .int x4, .int (v6 + (1 : Int32))]) (st := []) hx (dc kX6_enter_0 53 rfl) (cI _ my_X11_put lm_X6_40 (by decide)) st_X11_put rfl (fun u hu => sX11_put _ _ _ _ _ _ _ hu) (Nat.zero_le _) rfl (fun h9 => ?_)
    refine j_aload_n (q := 106) hx (dc kX6_enter_0 54 rfl) rfl 0 rfl rfl ?_
    refine w_gR (q := 109) hx (dc kX6_enter_0 55 rfl) ff_X6_3 lk_X6_21 rfl (fun v10 => ?_)
    refine j_iload (q := 111) hx (dc kX6_enter_0 56 rfl) 2 rfl rfl ?_
    refine j_aload_n (q := 112) hx (dc kX6_enter_0 57 rfl) rfl 0 rfl rfl ?_
    refine w_gR (q := 115) hx (dc kX6_enter_0 58 rfl) ff_X6_3 lk_X6_21 rfl (fun v11 => ?_)
    refine j_iload (q := 117) hx (dc kX6_enter_0 59 rfl) 2 rfl rfl ?_
    refine w_cSJR (q := 120) (As := [vR x.2.2.2 v11, .int x4]) (st := [.int x4, vR x.2.2.2 v10]) hx (dc kX6_enter_0 60 rfl) (cI _ my_X11_longAt lm_X6_48 (by decide)) st_X11_longAt rfl (fun u hu => sX11_longAt _ _ _ _ _ _ hu) (sum_le (sum_I (sum_R sum_nil)) (by decide)) rfl (fun v12 => ?_)
    refine j_iload_n (q := 121) hx (dc kX6_enter_0 61 rfl) rfl 1 rfl rfl ?_
    refine j_i2l (q := 122) hx (dc kX6_enter_0 62 rfl) rfl ?_
    refine j_ladd (q := 123) hx (dc kX6_enter_0 63 rfl) rfl ?_
    refine w_cSVW (q := 126) (As := [vR x.2.2.2 v10, .int x4, .long (v12 + x3.toInt64)]) (st := []) hx (dc kX6_enter_1 0 rfl) (cI _ my_X11_putLong lm_X6_44 (by decide)) st_X11_putLong rfl (fun u hu => sX11_putLong _ _ _ _ _ _ _ hu) (Nat.zero_le _) rfl (fun h15 => ?_)
    exact r_vW hx hR (dc kX6_enter_1 1 rfl)
  unfold mX6_enter
  refine J.ckd fun hk0 => ?_
  refine j_aload_n (q := 1) hx (dc kX6_enter_0 0 rfl) rfl 0 rfl rfl ?_
  refine w_gR (q := 4) hx (dc kX6_enter_0 1 rfl) ff_X6_4 lk_X6_25 rfl (fun v1 => ?_)
  refine j_iload_n (q := 5) hx (dc kX6_enter_0 2 rfl) rfl 1 rfl rfl ?_
  refine w_cSIR (q := 8) (As := [vR x.2.2.2 v1, .int x1]) (st := []) hx (dc kX6_enter_0 3 rfl) (cI _ my_X11_at lm_X6_36 (by decide)) st_X11_at rfl (fun u hu => sX11_at _ _ _ _ _ _ hu) (Nat.zero_le _) rfl (fun v2 => ?_)
  refine j_iconst (q := 9) (v := (1 : Int32)) hx (dc kX6_enter_0 4 rfl) (by decide) rfl ?_
  refine j_isub (q := 10) hx (dc kX6_enter_0 5 rfl) rfl ?_
  refine j_istore (q := 12) (i := 4) (l2 := [(0, vR x.2.2.2 x0), (1, .int x1), (2, .int x2), (3, .int x3)]) hx (dc kX6_enter_0 6 rfl) (hn 4 (by decide)) [0, 1, 2, 3] rfl ⟨⟨show (0 : Nat) ≠ 4 by decide, Or.inl (show (0 : Nat) + 1 ≠ 4 by decide)⟩, ⟨⟨show (1 : Nat) ≠ 4 by decide, Or.inl (show (1 : Nat) + 1 ≠ 4 by decide)⟩, ⟨⟨show (2 : Nat) ≠ 4 by decide, Or.inl (show (2 : Nat) + 1 ≠ 4 by decide)⟩, ⟨⟨show (3 : Nat) ≠ 4 by decide, Or.inr rfl⟩, trivial⟩⟩⟩⟩ rfl ?_
  refine j_iload (q := 14) hx (dc kX6_enter_0 7 rfl) 0 rfl rfl ?_
  refine j_if_geS (q := 17) (tgt := 85) hx (dc kX6_enter_0 8 rfl) (by decide) rfl ?_ ?_
  · exact j_sub [1, 4, 0] rfl (hb85 x0 x3 (v2 - (1 : Int32)) h)
  · refine j_aload_n (q := 18) hx (dc kX6_enter_0 9 rfl) rfl 1 rfl rfl ?_
    refine w_gI (q := 21) hx (dc kX6_enter_0 10 rfl) ff_X6_5 lk_X6_28 rfl (fun v16 => ?_)
    refine j_istore (q := 23) (i := 4) (l2 := [(0, vR x.2.2.2 x0), (1, .int x1), (2, .int x2), (3, .int x3)]) hx (dc kX6_enter_0 11 rfl) (hn 4 (by decide)) [1, 2, 3, 4] rfl ⟨⟨show (0 : Nat) ≠ 4 by decide, Or.inl (show (0 : Nat) + 1 ≠ 4 by decide)⟩, ⟨⟨show (1 : Nat) ≠ 4 by decide, Or.inl (show (1 : Nat) + 1 ≠ 4 by decide)⟩, ⟨⟨show (2 : Nat) ≠ 4 by decide, Or.inl (show (2 : Nat) + 1 ≠ 4 by decide)⟩, ⟨⟨show (3 : Nat) ≠ 4 by decide, Or.inr rfl⟩, trivial⟩⟩⟩⟩ rfl ?_
    refine j_aload_n (q := 24) hx (dc kX6_enter_0 12 rfl) rfl 1 rfl rfl ?_
    refine j_dup (q := 25) hx (dc kX6_enter_0 13 rfl) (vR_cat _ _) rfl ?_
    refine w_gI (q := 28) hx (dc kX6_enter_0 14 rfl) ff_X6_5 lk_X6_28 rfl (fun v17 => ?_)
    refine j_iconst (q := 29) (v := (1 : Int32)) hx (dc kX6_enter_0 15 rfl) (by decide) rfl ?_
    refine j_iadd (q := 30) hx (dc kX6_enter_0 16 rfl) rfl ?_
    refine w_sI (q := 33) hx (dc kX6_enter_0 17 rfl) ff_X6_5 rfl lk_X6_28 (Or.inl rfl) rfl (fun h18 => ?_)
    refine j_aload_n (q := 34) hx (dc kX6_enter_0 18 rfl) rfl 1 rfl rfl ?_
    refine w_gR (q := 37) hx (dc kX6_enter_0 19 rfl) ff_X6_4 lk_X6_25 rfl (fun v19 => ?_)
    refine j_iload_n (q := 38) hx (dc kX6_enter_0 20 rfl) rfl 2 rfl rfl ?_
    refine j_aload_n (q := 39) hx (dc kX6_enter_0 21 rfl) rfl 1 rfl rfl ?_
    refine w_gI (q := 42) hx (dc kX6_enter_0 22 rfl) ff_X6_5 lk_X6_28 rfl (fun v20 => ?_)
    refine w_cSVW (q := 45) (As := [vR x.2.2.2 v19, .int x1, .int v20]) (st := []) hx (dc kX6_enter_0 23 rfl) (cI _ my_X11_put lm_X6_40 (by decide)) st_X11_put rfl (fun u hu => sX11_put _ _ _ _ _ _ _ hu) (Nat.zero_le _) rfl (fun h22 => ?_)
    refine j_aload_n (q := 46) hx (dc kX6_enter_0 24 rfl) rfl 1 rfl rfl ?_
    refine w_gR (q := 49) hx (dc kX6_enter_0 25 rfl) ff_X6_0 lk_X6_9 rfl (fun v23 => ?_)
    refine j_iload (q := 51) hx (dc kX6_enter_0 26 rfl) 0 rfl rfl ?_
    refine j_iload_n (q := 52) hx (dc kX6_enter_0 27 rfl) rfl 2 rfl rfl ?_
    refine w_cSVW (q := 55) (As := [vR x.2.2.2 v23, .int v16, .int x1]) (st := []) hx (dc kX6_enter_0 28 rfl) (cI _ my_X11_put lm_X6_40 (by decide)) st_X11_put rfl (fun u hu => sX11_put _ _ _ _ _ _ _ hu) (Nat.zero_le _) rfl (fun h25 => ?_)
    refine j_aload_n (q := 56) hx (dc kX6_enter_0 29 rfl) rfl 1 rfl rfl ?_
    refine w_gR (q := 59) hx (dc kX6_enter_0 30 rfl) ff_X6_2 lk_X6_18 rfl (fun v26 => ?_)
    refine j_iload (q := 61) hx (dc kX6_enter_0 31 rfl) 0 rfl rfl ?_
    refine j_iload_n (q := 62) hx (dc kX6_enter_0 32 rfl) rfl 3 rfl rfl ?_
    refine w_cSVW (q := 65) (As := [vR x.2.2.2 v26, .int v16, .int x2]) (st := []) hx (dc kX6_enter_0 33 rfl) (cI _ my_X11_put lm_X6_40 (by decide)) st_X11_put rfl (fun u hu => sX11_put _ _ _ _ _ _ _ hu) (Nat.zero_le _) rfl (fun h28 => ?_)
    refine j_aload_n (q := 66) hx (dc kX6_enter_0 34 rfl) rfl 1 rfl rfl ?_
    refine w_gR (q := 69) hx (dc kX6_enter_0 35 rfl) ff_X6_1 lk_X6_15 rfl (fun v29 => ?_)
    refine j_iload (q := 71) hx (dc kX6_enter_0 36 rfl) 0 rfl rfl ?_
    refine j_iconst (q := 72) (v := (0 : Int32)) hx (dc kX6_enter_0 37 rfl) (by decide) rfl ?_
    refine w_cSVW (q := 75) (As := [vR x.2.2.2 v29, .int v16, .int (0 : Int32)]) (st := []) hx (dc kX6_enter_0 38 rfl) (cI _ my_X11_put lm_X6_40 (by decide)) st_X11_put rfl (fun u hu => sX11_put _ _ _ _ _ _ _ hu) (Nat.zero_le _) rfl (fun h31 => ?_)
    refine j_aload_n (q := 76) hx (dc kX6_enter_0 39 rfl) rfl 1 rfl rfl ?_
    refine w_gR (q := 79) hx (dc kX6_enter_0 40 rfl) ff_X6_3 lk_X6_21 rfl (fun v32 => ?_)
    refine j_iload (q := 81) hx (dc kX6_enter_0 41 rfl) 0 rfl rfl ?_
    refine j_lconst (q := 82) (v := (0 : Int64)) hx (dc kX6_enter_0 42 rfl) (by decide) rfl ?_
    refine w_cSVW (q := 85) (As := [vR x.2.2.2 v32, .int v16, .long (0 : Int64)]) (st := []) hx (dc kX6_enter_0 43 rfl) (cI _ my_X11_putLong lm_X6_44 (by decide)) st_X11_putLong rfl (fun u hu => sX11_putLong _ _ _ _ _ _ _ hu) (Nat.zero_le _) rfl (fun h34 => ?_)
    exact j_sub [1, 4, 0] rfl (hb85 x0 x3 v16 h34)

set_option maxHeartbeats 4000000 in
set_option maxRecDepth 100000 in
theorem sX7_take (l : Launch) (w : Wd) (x0 : Nat) (x1 : Int32) (h : Hp) (u : (Int32 × Hp)) (hK : mX7_take x0 x1 h = some u) : M1 l w mi_X7_take 2 [vR w x0, .int x1] h u.2 (some (.int u.1)) := by
  refine M1.of (own := RX7) (T := fun _ r => r = u) hK (by decide +kernel) rfl (by first | (simp only [lg_lenR, lg_lenI, lg_lenL, lg_len0]; decide) | decide) (fun x hx hnl hhf hl hw hret hnm hQ h0e => ⟨?_, rfl⟩)
  subst hw
  subst hl
  have hR : Rt x h u.2 (some (.int u.1)) ((some .boolean)) := ⟨h0e, hhf, hret, hQ⟩
  have hn : ∀ i, i < 3 → i < x.2.2.1.1.1 := fun i hi => by rw [hnl]; exact hi
  have e0 : lv_args 0 [vR x.2.2.2 x0, .int x1] = [(0, vR x.2.2.2 x0), (1, .int x1)] := by simp only [lv_argsR, lv_argsI, lv_argsL, lv_args0]
  rw [e0]
  have hb16 : ∀ (x0 : Nat) (x1 : Int32) (x2 : Int32) (h : Hp), J x 16 [(0, vR x.2.2.2 x0), (1, .int x1), (2, .int x2)] [] h (mX7_take_l16 x0 x1 x2 h) (fun r => r = u) := by
    intro x0 x1 x2 h
    have hB : ∀ (x2 : Int32) (h : Hp), J x 16 [(0, vR x.2.2.2 x0), (1, .int x1), (2, .int x2)] [] h (mX7_take_l16f x0 x1 x2 h) (TL (S := (Int32 × Hp)) x 16 (fun s => [(0, vR x.2.2.2 x0), (1, .int x1), (2, .int s.1)]) [] (fun s => s.2) (fun r => r = u)) := by
      intro x2 h
      unfold mX7_take_l16f
      refine j_iload_n (q := 17) hx (dc kX7_take_0 10 rfl) rfl 2 rfl rfl ?_
      refine j_iconst (q := 18) (v := (4 : Int32)) hx (dc kX7_take_0 11 rfl) (by decide) rfl ?_
      refine j_icmp_geS (q := 21) (tgt := 53) hx (dc kX7_take_0 12 rfl) (by decide) rfl ?_ ?_
      · refine j_exit ?_
        refine j_aload_n (q := 54) hx (dc kX7_take_0 31 rfl) rfl 0 rfl rfl ?_
        refine j_dup (q := 55) hx (dc kX7_take_0 32 rfl) (vR_cat _ _) rfl ?_
        refine w_gI (q := 58) hx (dc kX7_take_0 33 rfl) ff_X7_1 lk_X7_15 rfl (fun v2 => ?_)
        refine j_iconst (q := 59) (v := (4 : Int32)) hx (dc kX7_take_0 34 rfl) (by decide) rfl ?_
        refine j_iadd (q := 60) hx (dc kX7_take_0 35 rfl) rfl ?_
        refine w_sI (q := 63) hx (dc kX7_take_0 36 rfl) ff_X7_1 rfl lk_X7_15 (Or.inl rfl) rfl (fun h3 => ?_)
        refine j_iconst (q := 64) (v := (1 : Int32)) hx (dc kX7_take_0 37 rfl) (by decide) rfl ?_
        exact r_cW hx (Or.inr rfl) hR (dc kX7_take_0 38 rfl)
      · refine j_aload_n (q := 22) hx (dc kX7_take_0 13 rfl) rfl 0 rfl rfl ?_
        refine w_gR (q := 25) hx (dc kX7_take_0 14 rfl) ff_X7_0 lk_X7_9 rfl (fun v4 => ?_)
        refine j_aload_n (q := 26) hx (dc kX7_take_0 15 rfl) rfl 0 rfl rfl ?_
        refine w_gI (q := 29) hx (dc kX7_take_0 16 rfl) ff_X7_1 lk_X7_15 rfl (fun v5 => ?_)
        refine j_iload_n (q := 30) hx (dc kX7_take_0 17 rfl) rfl 2 rfl rfl ?_
        refine j_iadd (q := 31) hx (dc kX7_take_0 18 rfl) rfl ?_
        refine j_iload_n (q := 32) hx (dc kX7_take_0 19 rfl) rfl 1 rfl rfl ?_
        refine j_bipush (q := 34) (v := (24 : Int32)) hx (dc kX7_take_0 20 rfl) (by decide) rfl ?_
        refine j_bipush (q := 36) (v := (8 : Int32)) hx (dc kX7_take_0 21 rfl) (by decide) rfl ?_
        refine j_iload_n (q := 37) hx (dc kX7_take_0 22 rfl) rfl 2 rfl rfl ?_
        refine j_imul (q := 38) hx (dc kX7_take_0 23 rfl) rfl ?_
        refine j_isub (q := 39) hx (dc kX7_take_0 24 rfl) rfl ?_
        refine j_iushr (q := 40) hx (dc kX7_take_0 25 rfl) rfl ?_
        refine j_sipush (q := 43) (v := (255 : Int32)) hx (dc kX7_take_0 26 rfl) (by decide) rfl ?_
        refine j_iand (q := 44) hx (dc kX7_take_0 27 rfl) rfl ?_
        refine w_cSVW (q := 47) (As := [vR x.2.2.2 v4, .int (v5 + x2), .int ((ushrI x1 ((24 : Int32) - ((8 : Int32) * x2))) &&& (255 : Int32))]) (st := []) hx (dc kX7_take_0 28 rfl) (cI _ my_X11_put lm_X7_19 (by decide)) st_X11_put rfl (fun u hu => sX11_put _ _ _ _ _ _ _ hu) (Nat.zero_le _) rfl (fun h7 => ?_)
        refine j_iinc (q := 50) (l2 := [(0, vR x.2.2.2 x0), (1, .int x1)]) hx (dc kX7_take_0 29 rfl) 2 rfl (v := (1 : Int32)) (by decide) (hn 2 (by decide)) [0, 1] rfl ⟨⟨show (0 : Nat) ≠ 2 by decide, Or.inl (show (0 : Nat) + 1 ≠ 2 by decide)⟩, ⟨⟨show (1 : Nat) ≠ 2 by decide, Or.inr rfl⟩, trivial⟩⟩ rfl ?_
        refine j_goto (q := 16) hx (dc kX7_take_0 30 rfl) (by decide) ?_
        exact j_back [1, 2, 0] ((x2 + (1 : Int32)), h7) rfl rfl
    exact j_loop (S := (Int32 × Hp)) (lvf := fun s => [(0, vR x.2.2.2 x0), (1, .int x1), (2, .int s.1)]) (hpf := fun s => s.2) (f := (fun s : (Int32 × Hp) => mX7_take_l16f x0 x1 s.1 s.2)) (fun s => hB s.1 s.2) (x2, h)
  unfold mX7_take
  refine J.ckd fun hk0 => ?_
  refine j_aload_n (q := 1) hx (dc kX7_take_0 0 rfl) rfl 0 rfl rfl ?_
  refine w_gI (q := 4) hx (dc kX7_take_0 1 rfl) ff_X7_1 lk_X7_15 rfl (fun v1 => ?_)
  refine j_iconst (q := 5) (v := (4 : Int32)) hx (dc kX7_take_0 2 rfl) (by decide) rfl ?_
  refine j_iadd (q := 6) hx (dc kX7_take_0 3 rfl) rfl ?_
  refine j_sipush (q := 9) (v := (480 : Int32)) hx (dc kX7_take_0 4 rfl) (by decide) rfl ?_
  refine j_icmp_leS (q := 12) (tgt := 14) hx (dc kX7_take_0 5 rfl) (by decide) rfl ?_ ?_
  · refine j_iconst (q := 15) (v := (0 : Int32)) hx (dc kX7_take_0 8 rfl) (by decide) rfl ?_
    refine j_istore_n (q := 16) (i := 2) (l2 := [(0, vR x.2.2.2 x0), (1, .int x1)]) hx (dc kX7_take_0 9 rfl) rfl (hn 2 (by decide)) [0, 1] rfl ⟨⟨show (0 : Nat) ≠ 2 by decide, Or.inl (show (0 : Nat) + 1 ≠ 2 by decide)⟩, ⟨⟨show (1 : Nat) ≠ 2 by decide, Or.inr rfl⟩, trivial⟩⟩ rfl ?_
    exact j_sub [1, 2, 0] rfl (hb16 x0 x1 (0 : Int32) h)
  · refine j_iconst (q := 13) (v := (0 : Int32)) hx (dc kX7_take_0 6 rfl) (by decide) rfl ?_
    exact r_cW hx (Or.inl rfl) hR (dc kX7_take_0 7 rfl)

set_option maxHeartbeats 4000000 in
set_option maxRecDepth 100000 in
theorem sX7_cut (l : Launch) (w : Wd) (x0 : Nat) (x1 : Int32) (h : Hp) (u : (Int32 × Hp)) (hK : mX7_cut x0 x1 h = some u) : M1 l w mi_X7_cut 1 [vR w x0, .int x1] h u.2 (some (.int u.1)) := by
  refine M1.of (own := RX7) (T := fun _ r => r = u) hK (by decide +kernel) rfl (by first | (simp only [lg_lenR, lg_lenI, lg_lenL, lg_len0]; decide) | decide) (fun x hx hnl hhf hl hw hret hnm hQ h0e => ⟨?_, rfl⟩)
  subst hw
  subst hl
  have hR : Rt x h u.2 (some (.int u.1)) ((some .boolean)) := ⟨h0e, hhf, hret, hQ⟩
  have hn : ∀ i, i < 2 → i < x.2.2.1.1.1 := fun i hi => by rw [hnl]; exact hi
  have e0 : lv_args 0 [vR x.2.2.2 x0, .int x1] = [(0, vR x.2.2.2 x0), (1, .int x1)] := by simp only [lv_argsR, lv_argsI, lv_argsL, lv_args0]
  rw [e0]
  unfold mX7_cut
  refine J.ckd fun hk0 => ?_
  refine j_iload_n (q := 1) hx (dc kX7_cut_0 0 rfl) rfl 1 rfl rfl ?_
  refine j_if_lt (q := 4) (tgt := 12) hx (dc kX7_cut_0 1 rfl) (by decide) Iff.rfl rfl ?_ ?_
  · refine j_iconst (q := 13) (v := (0 : Int32)) hx (dc kX7_cut_0 6 rfl) (by decide) rfl ?_
    exact r_cW hx (Or.inl rfl) hR (dc kX7_cut_0 7 rfl)
  · refine j_iload_n (q := 5) hx (dc kX7_cut_0 2 rfl) rfl 1 rfl rfl ?_
    refine j_aload_n (q := 6) hx (dc kX7_cut_0 3 rfl) rfl 0 rfl rfl ?_
    refine w_gI (q := 9) hx (dc kX7_cut_0 4 rfl) ff_X7_1 lk_X7_15 rfl (fun v1 => ?_)
    refine j_icmp_leS (q := 12) (tgt := 14) hx (dc kX7_cut_0 5 rfl) (by decide) rfl ?_ ?_
    · refine j_aload_n (q := 15) hx (dc kX7_cut_0 8 rfl) rfl 0 rfl rfl ?_
      refine j_iload_n (q := 16) hx (dc kX7_cut_0 9 rfl) rfl 1 rfl rfl ?_
      refine w_sI (q := 19) hx (dc kX7_cut_0 10 rfl) ff_X7_1 rfl lk_X7_15 (Or.inl rfl) rfl (fun h2 => ?_)
      refine j_iconst (q := 20) (v := (1 : Int32)) hx (dc kX7_cut_0 11 rfl) (by decide) rfl ?_
      exact r_cW hx (Or.inr rfl) hR (dc kX7_cut_0 12 rfl)
    · refine j_iconst (q := 13) (v := (0 : Int32)) hx (dc kX7_cut_0 6 rfl) (by decide) rfl ?_
      exact r_cW hx (Or.inl rfl) hR (dc kX7_cut_0 7 rfl)

set_option maxHeartbeats 4000000 in
set_option maxRecDepth 100000 in
theorem sX7_read (l : Launch) (w : Wd) (x0 : Nat) (x1 : Int32) (h : Hp) (u : Int32) (hK : mX7_read x0 x1 h = some u) : M1 l w mi_X7_read 2 [vR w x0, .int x1] h h (some (.int u)) := by
  refine M1.of (own := RX7) (T := fun _ r => r = u) hK (by decide +kernel) rfl (by first | (simp only [lg_lenR, lg_lenI, lg_lenL, lg_len0]; decide) | decide) (fun x hx hnl hhf hl hw hret hnm hQ h0e => ⟨?_, rfl⟩)
  subst hw
  subst hl
  have hR : Rt x h h (some (.int u)) ((some .int)) := ⟨h0e, hhf, hret, hQ⟩
  have hn : ∀ i, i < 2 → i < x.2.2.1.1.1 := fun i hi => by rw [hnl]; exact hi
  have e0 : lv_args 0 [vR x.2.2.2 x0, .int x1] = [(0, vR x.2.2.2 x0), (1, .int x1)] := by simp only [lv_argsR, lv_argsI, lv_argsL, lv_args0]
  rw [e0]
  unfold mX7_read
  refine J.ckd fun hk0 => ?_
  refine j_iload_n (q := 1) hx (dc kX7_read_0 0 rfl) rfl 1 rfl rfl ?_
  refine j_aload_n (q := 2) hx (dc kX7_read_0 1 rfl) rfl 0 rfl rfl ?_
  refine w_gI (q := 5) hx (dc kX7_read_0 2 rfl) ff_X7_1 lk_X7_15 rfl (fun v1 => ?_)
  refine j_icmp_geS (q := 8) (tgt := 19) hx (dc kX7_read_0 3 rfl) (by decide) rfl ?_ ?_
  · refine j_iconst (q := 20) (v := (0 : Int32)) hx (dc kX7_read_0 9 rfl) (by decide) rfl ?_
    exact r_iR hx hR (dc kX7_read_0 10 rfl)
  · refine j_aload_n (q := 9) hx (dc kX7_read_0 4 rfl) rfl 0 rfl rfl ?_
    refine w_gR (q := 12) hx (dc kX7_read_0 5 rfl) ff_X7_0 lk_X7_9 rfl (fun v2 => ?_)
    refine j_iload_n (q := 13) hx (dc kX7_read_0 6 rfl) rfl 1 rfl rfl ?_
    refine w_cSIR (q := 16) (As := [vR x.2.2.2 v2, .int x1]) (st := []) hx (dc kX7_read_0 7 rfl) (cI _ my_X11_at lm_X7_23 (by decide)) st_X11_at rfl (fun u hu => sX11_at _ _ _ _ _ _ hu) (Nat.zero_le _) rfl (fun v3 => ?_)
    refine j_goto (q := 20) hx (dc kX7_read_0 8 rfl) (by decide) ?_
    exact r_iR hx hR (dc kX7_read_0 10 rfl)

set_option maxHeartbeats 4000000 in
set_option maxRecDepth 100000 in
theorem sX9_node (l : Launch) (w : Wd) (x0 : Nat) (x1 : Int32) (x2 : Int32) (h : Hp) (u : Int32) (hK : mX9_node x0 x1 x2 h = some u) : M1 l w mi_X9_node 2 [vR w x0, .int x1, .int x2] h h (some (.int u)) := by
  refine M1.of (own := RX9) (T := fun _ r => r = u) hK (by decide +kernel) rfl (by first | (simp only [lg_lenR, lg_lenI, lg_lenL, lg_len0]; decide) | decide) (fun x hx hnl hhf hl hw hret hnm hQ h0e => ⟨?_, rfl⟩)
  subst hw
  subst hl
  have hR : Rt x h h (some (.int u)) ((some .int)) := ⟨h0e, hhf, hret, hQ⟩
  have hn : ∀ i, i < 3 → i < x.2.2.1.1.1 := fun i hi => by rw [hnl]; exact hi
  have e0 : lv_args 0 [vR x.2.2.2 x0, .int x1, .int x2] = [(0, vR x.2.2.2 x0), (1, .int x1), (2, .int x2)] := by simp only [lv_argsR, lv_argsI, lv_argsL, lv_args0]
  rw [e0]
  unfold mX9_node
  refine J.ckd fun hk0 => ?_
  refine j_aload_n (q := 1) hx (dc kX9_node_0 0 rfl) rfl 0 rfl rfl ?_
  refine w_gR (q := 4) hx (dc kX9_node_0 1 rfl) ff_X9_0 lk_X9_9 rfl (fun v1 => ?_)
  refine j_iload_n (q := 5) hx (dc kX9_node_0 2 rfl) rfl 1 rfl rfl ?_
  refine w_cSIR (q := 8) (As := [vR x.2.2.2 v1, .int x1]) (st := []) hx (dc kX9_node_0 3 rfl) (cI _ my_X11_at lm_X9_24 (by decide)) st_X11_at rfl (fun u hu => sX11_at _ _ _ _ _ _ hu) (Nat.zero_le _) rfl (fun v2 => ?_)
  refine j_aload_n (q := 9) hx (dc kX9_node_0 4 rfl) rfl 0 rfl rfl ?_
  refine w_gR (q := 12) hx (dc kX9_node_0 5 rfl) ff_X9_0 lk_X9_9 rfl (fun v4 => ?_)
  refine j_iload_n (q := 13) hx (dc kX9_node_0 6 rfl) rfl 2 rfl rfl ?_
  refine w_cSIR (q := 16) (As := [vR x.2.2.2 v4, .int x2]) (st := [.int v2]) hx (dc kX9_node_0 7 rfl) (cI _ my_X11_at lm_X9_24 (by decide)) st_X11_at rfl (fun u hu => sX11_at _ _ _ _ _ _ hu) (sum_le (sum_I sum_nil) (by decide)) rfl (fun v5 => ?_)
  refine j_iadd (q := 17) hx (dc kX9_node_0 8 rfl) rfl ?_
  exact r_iR hx hR (dc kX9_node_0 9 rfl)

set_option maxHeartbeats 4000000 in
set_option maxRecDepth 100000 in
theorem sX9_markOf (l : Launch) (w : Wd) (x0 : Nat) (x1 : Int32) (x2 : Int32) (h : Hp) (u : Int32) (hK : mX9_markOf x0 x1 x2 h = some u) : M1 l w mi_X9_markOf 3 [vR w x0, .int x1, .int x2] h h (some (.int u)) := by
  refine M1.of (own := RX9) (T := fun _ r => r = u) hK (by decide +kernel) rfl (by first | (simp only [lg_lenR, lg_lenI, lg_lenL, lg_len0]; decide) | decide) (fun x hx hnl hhf hl hw hret hnm hQ h0e => ⟨?_, rfl⟩)
  subst hw
  subst hl
  have hR : Rt x h h (some (.int u)) ((some .int)) := ⟨h0e, hhf, hret, hQ⟩
  have hn : ∀ i, i < 3 → i < x.2.2.1.1.1 := fun i hi => by rw [hnl]; exact hi
  have e0 : lv_args 0 [vR x.2.2.2 x0, .int x1, .int x2] = [(0, vR x.2.2.2 x0), (1, .int x1), (2, .int x2)] := by simp only [lv_argsR, lv_argsI, lv_argsL, lv_args0]
  rw [e0]
  unfold mX9_markOf
  refine J.ckd fun hk0 => ?_
  refine j_aload_n (q := 1) hx (dc kX9_markOf_0 0 rfl) rfl 0 rfl rfl ?_
  refine w_gR (q := 4) hx (dc kX9_markOf_0 1 rfl) ff_X9_2 lk_X9_18 rfl (fun v1 => ?_)
  refine j_aload_n (q := 5) hx (dc kX9_markOf_0 2 rfl) rfl 0 rfl rfl ?_
  refine j_iload_n (q := 6) hx (dc kX9_markOf_0 3 rfl) rfl 1 rfl rfl ?_
  refine j_iload_n (q := 7) hx (dc kX9_markOf_0 4 rfl) rfl 2 rfl rfl ?_
  refine w_cVIR (q := 10) (As := [.int x1, .int x2]) (st := [vR x.2.2.2 v1]) hx (dc kX9_markOf_0 5 rfl) cf9 (by decide) rfl (cI _ my_X9_node lm_X9_32 (by decide)) vs_X9_node rfl (fun u hu => sX9_node _ _ _ _ _ _ _ hu) (fun e => ite_ne (by unfold mX9_node at e; exact e)) (sum_le (sum_R sum_nil) (by decide)) rfl (fun v2 => ?_)
  refine w_cSIR (q := 13) (As := [vR x.2.2.2 v1, .int v2]) (st := []) hx (dc kX9_markOf_0 6 rfl) (cI _ my_X11_at lm_X9_24 (by decide)) st_X11_at rfl (fun u hu => sX11_at _ _ _ _ _ _ hu) (Nat.zero_le _) rfl (fun v4 => ?_)
  exact r_iR hx hR (dc kX9_markOf_0 7 rfl)

set_option maxHeartbeats 4000000 in
set_option maxRecDepth 100000 in
theorem sX9_value (l : Launch) (w : Wd) (x0 : Nat) (h : Hp) (u : Int32) (hK : mX9_value x0 h = some u) : M1 l w mi_X9_value 2 [vR w x0] h h (some (.int u)) := by
  refine M1.of (own := RX9) (T := fun _ r => r = u) hK (by decide +kernel) rfl (by first | (simp only [lg_lenR, lg_lenI, lg_lenL, lg_len0]; decide) | decide) (fun x hx hnl hhf hl hw hret hnm hQ h0e => ⟨?_, rfl⟩)
  subst hw
  subst hl
  have hR : Rt x h h (some (.int u)) ((some .int)) := ⟨h0e, hhf, hret, hQ⟩
  have hn : ∀ i, i < 1 → i < x.2.2.1.1.1 := fun i hi => by rw [hnl]; exact hi
  have e0 : lv_args 0 [vR x.2.2.2 x0] = [(0, vR x.2.2.2 x0)] := by simp only [lv_argsR, lv_argsI, lv_argsL, lv_args0]
  rw [e0]
  unfold mX9_value
  refine J.ckd fun hk0 => ?_
  refine j_aload_n (q := 1) hx (dc kX9_value_0 0 rfl) rfl 0 rfl rfl ?_
  refine w_gR (q := 4) hx (dc kX9_value_0 1 rfl) ff_X9_3 lk_X9_21 rfl (fun v1 => ?_)
  refine j_iconst (q := 5) (v := (0 : Int32)) hx (dc kX9_value_0 2 rfl) (by decide) rfl ?_
  refine w_cSIR (q := 8) (As := [vR x.2.2.2 v1, .int (0 : Int32)]) (st := []) hx (dc kX9_value_0 3 rfl) (cI _ my_X11_at lm_X9_24 (by decide)) st_X11_at rfl (fun u hu => sX11_at _ _ _ _ _ _ hu) (Nat.zero_le _) rfl (fun v2 => ?_)
  exact r_iR hx hR (dc kX9_value_0 4 rfl)

set_option maxHeartbeats 4000000 in
set_option maxRecDepth 100000 in
theorem sX9_setLeaf (l : Launch) (w : Wd) (x0 : Nat) (x1 : Int32) (x2 : Int32) (h : Hp) (u : Hp) (hK : mX9_setLeaf x0 x1 x2 h = some u) : M1 l w mi_X9_setLeaf 2 [vR w x0, .int x1, .int x2] h u (none) := by
  refine M1.of (own := RX9) (T := fun _ r => r = u) hK (by decide +kernel) rfl (by first | (simp only [lg_lenR, lg_lenI, lg_lenL, lg_len0]; decide) | decide) (fun x hx hnl hhf hl hw hret hnm hQ h0e => ⟨?_, rfl⟩)
  subst hw
  subst hl
  have hR : Rt x h u (none) (none) := ⟨h0e, hhf, hret, hQ⟩
  have hn : ∀ i, i < 3 → i < x.2.2.1.1.1 := fun i hi => by rw [hnl]; exact hi
  have e0 : lv_args 0 [vR x.2.2.2 x0, .int x1, .int x2] = [(0, vR x.2.2.2 x0), (1, .int x1), (2, .int x2)] := by simp only [lv_argsR, lv_argsI, lv_argsL, lv_args0]
  rw [e0]
  unfold mX9_setLeaf
  refine J.ckd fun hk0 => ?_
  refine j_aload_n (q := 1) hx (dc kX9_setLeaf_0 0 rfl) rfl 0 rfl rfl ?_
  refine w_gR (q := 4) hx (dc kX9_setLeaf_0 1 rfl) ff_X9_1 lk_X9_15 rfl (fun v1 => ?_)
  refine j_iload_n (q := 5) hx (dc kX9_setLeaf_0 2 rfl) rfl 1 rfl rfl ?_
  refine j_iload_n (q := 6) hx (dc kX9_setLeaf_0 3 rfl) rfl 2 rfl rfl ?_
  refine w_cSVW (q := 9) (As := [vR x.2.2.2 v1, .int x1, .int x2]) (st := []) hx (dc kX9_setLeaf_0 4 rfl) (cI _ my_X11_put lm_X9_28 (by decide)) st_X11_put rfl (fun u hu => sX11_put _ _ _ _ _ _ _ hu) (Nat.zero_le _) rfl (fun h3 => ?_)
  exact r_vW hx hR (dc kX9_setLeaf_0 5 rfl)

set_option maxHeartbeats 4000000 in
set_option maxRecDepth 100000 in
theorem sX9_markFrom (l : Launch) (w : Wd) (x0 : Nat) (x1 : Int32) (x2 : Int32) (h : Hp) (u : Int32) (hK : mX9_markFrom x0 x1 x2 h = some u) : M1 l w mi_X9_markFrom 2 [vR w x0, .int x1, .int x2] h h (some (.int u)) := by
  refine M1.of (own := RX9) (T := fun _ r => r = u) hK (by decide +kernel) rfl (by first | (simp only [lg_lenR, lg_lenI, lg_lenL, lg_len0]; decide) | decide) (fun x hx hnl hhf hl hw hret hnm hQ h0e => ⟨?_, rfl⟩)
  subst hw
  subst hl
  have hR : Rt x h h (some (.int u)) ((some .int)) := ⟨h0e, hhf, hret, hQ⟩
  have hn : ∀ i, i < 4 → i < x.2.2.1.1.1 := fun i hi => by rw [hnl]; exact hi
  have e0 : lv_args 0 [vR x.2.2.2 x0, .int x1, .int x2] = [(0, vR x.2.2.2 x0), (1, .int x1), (2, .int x2)] := by simp only [lv_argsR, lv_argsI, lv_argsL, lv_args0]
  rw [e0]
  unfold mX9_markFrom
  refine J.ckd fun hk0 => ?_
  refine j_aload_n (q := 1) hx (dc kX9_markFrom_0 0 rfl) rfl 0 rfl rfl ?_
  refine w_gR (q := 4) hx (dc kX9_markFrom_0 1 rfl) ff_X9_0 lk_X9_9 rfl (fun v1 => ?_)
  refine j_iload_n (q := 5) hx (dc kX9_markFrom_0 2 rfl) rfl 2 rfl rfl ?_
  refine j_iload_n (q := 6) hx (dc kX9_markFrom_0 3 rfl) rfl 2 rfl rfl ?_
  refine j_ineg (q := 7) hx (dc kX9_markFrom_0 4 rfl) rfl ?_
  refine j_iand (q := 8) hx (dc kX9_markFrom_0 5 rfl) rfl ?_
  refine w_cSIR (q := 11) (As := [vR x.2.2.2 v1, .int (x2 &&& (-x2))]) (st := []) hx (dc kX9_markFrom_0 6 rfl) (cI _ my_X11_at lm_X9_24 (by decide)) st_X11_at rfl (fun u hu => sX11_at _ _ _ _ _ _ hu) (Nat.zero_le _) rfl (fun v2 => ?_)
  refine j_istore_n (q := 12) (i := 3) (l2 := [(0, vR x.2.2.2 x0), (1, .int x1)]) hx (dc kX9_markFrom_0 7 rfl) rfl (hn 3 (by decide)) [0, 1] rfl ⟨⟨show (0 : Nat) ≠ 3 by decide, Or.inl (show (0 : Nat) + 1 ≠ 3 by decide)⟩, ⟨⟨show (1 : Nat) ≠ 3 by decide, Or.inl (show (1 : Nat) + 1 ≠ 3 by decide)⟩, trivial⟩⟩ rfl ?_
  refine j_aload_n (q := 13) hx (dc kX9_markFrom_0 8 rfl) rfl 1 rfl rfl ?_
  refine w_gR (q := 16) hx (dc kX9_markFrom_0 9 rfl) ff_X9_2 lk_X9_18 rfl (fun v4 => ?_)
  refine j_iload_n (q := 17) hx (dc kX9_markFrom_0 10 rfl) rfl 2 rfl rfl ?_
  refine j_iload_n (q := 18) hx (dc kX9_markFrom_0 11 rfl) rfl 0 rfl rfl ?_
  refine j_iadd (q := 19) hx (dc kX9_markFrom_0 12 rfl) rfl ?_
  refine w_cSIR (q := 22) (As := [vR x.2.2.2 v4, .int (x1 + v2)]) (st := []) hx (dc kX9_markFrom_0 13 rfl) (cI _ my_X11_at lm_X9_24 (by decide)) st_X11_at rfl (fun u hu => sX11_at _ _ _ _ _ _ hu) (Nat.zero_le _) rfl (fun v5 => ?_)
  refine j_aload_n (q := 23) hx (dc kX9_markFrom_0 14 rfl) rfl 1 rfl rfl ?_
  refine w_gR (q := 26) hx (dc kX9_markFrom_0 15 rfl) ff_X9_2 lk_X9_18 rfl (fun v7 => ?_)
  refine j_iload_n (q := 27) hx (dc kX9_markFrom_0 16 rfl) rfl 2 rfl rfl ?_
  refine j_iconst (q := 28) (v := (2 : Int32)) hx (dc kX9_markFrom_0 17 rfl) (by decide) rfl ?_
  refine j_iload_n (q := 29) hx (dc kX9_markFrom_0 18 rfl) rfl 0 rfl rfl ?_
  refine j_imul (q := 30) hx (dc kX9_markFrom_0 19 rfl) rfl ?_
  refine j_iadd (q := 31) hx (dc kX9_markFrom_0 20 rfl) rfl ?_
  refine w_cSIR (q := 34) (As := [vR x.2.2.2 v7, .int (x1 + ((2 : Int32) * v2))]) (st := [.int v5]) hx (dc kX9_markFrom_0 21 rfl) (cI _ my_X11_at lm_X9_24 (by decide)) st_X11_at rfl (fun u hu => sX11_at _ _ _ _ _ _ hu) (sum_le (sum_I sum_nil) (by decide)) rfl (fun v8 => ?_)
  refine j_ior (q := 35) hx (dc kX9_markFrom_0 22 rfl) rfl ?_
  exact r_iR hx hR (dc kX9_markFrom_0 23 rfl)

set_option maxHeartbeats 4000000 in
set_option maxRecDepth 100000 in
theorem sX9_grow (l : Launch) (w : Wd) (x0 : Nat) (x1 : Int32) (x2 : Int32) (h : Hp) (u : Hp) (hK : mX9_grow x0 x1 x2 h = some u) : M1 l w mi_X9_grow 3 [vR w x0, .int x1, .int x2] h u (none) := by
  refine M1.of (own := RX9) (T := fun _ r => r = u) hK (by decide +kernel) rfl (by first | (simp only [lg_lenR, lg_lenI, lg_lenL, lg_len0]; decide) | decide) (fun x hx hnl hhf hl hw hret hnm hQ h0e => ⟨?_, rfl⟩)
  subst hw
  subst hl
  have hR : Rt x h u (none) (none) := ⟨h0e, hhf, hret, hQ⟩
  have hn : ∀ i, i < 7 → i < x.2.2.1.1.1 := fun i hi => by rw [hnl]; exact hi
  have e0 : lv_args 0 [vR x.2.2.2 x0, .int x1, .int x2] = [(0, vR x.2.2.2 x0), (1, .int x1), (2, .int x2)] := by simp only [lv_argsR, lv_argsI, lv_argsL, lv_args0]
  rw [e0]
  have hb10 : ∀ (x0 : Nat) (x2 : Int32) (x3 : Int32) (h : Hp), J x 10 [(0, vR x.2.2.2 x0), (2, .int x2), (3, .int x3)] [] h (mX9_grow_l10 x0 x2 x3 h) (fun r => r = u) := by
    intro x0 x2 x3 h
    have hB : ∀ (x3 : Int32) (h : Hp), J x 10 [(0, vR x.2.2.2 x0), (2, .int x2), (3, .int x3)] [] h (mX9_grow_l10f x0 x2 x3 h) (TL (S := (Int32 × Hp)) x 10 (fun s => [(0, vR x.2.2.2 x0), (2, .int x2), (3, .int s.1)]) [] (fun s => s.2) (fun r => r = u)) := by
      intro x3 h
      have hb103 : ∀ (x0 : Nat) (x2 : Int32) (x3 : Int32) (h : Hp), J x 103 [(0, vR x.2.2.2 x0), (2, .int x2), (3, .int x3)] [] h (mX9_grow_b103 x0 x2 x3 h) (TL (S := (Int32 × Hp)) x 10 (fun s => [(0, vR x.2.2.2 x0), (2, .int x2), (3, .int s.1)]) [] (fun s => s.2) (fun r => r = u)) := by
        intro x0 x2 x3 h
        unfold mX9_grow_b103
        refine j_iinc (q := 106) (l2 := [(0, vR x.2.2.2 x0), (2, .int x2)]) hx (dc kX9_grow_0 56 rfl) 2 rfl (v := (-1 : Int32)) (by decide) (hn 3 (by decide)) [0, 1] rfl ⟨⟨show (0 : Nat) ≠ 3 by decide, Or.inl (show (0 : Nat) + 1 ≠ 3 by decide)⟩, ⟨⟨show (2 : Nat) ≠ 3 by decide, Or.inr rfl⟩, trivial⟩⟩ rfl ?_
        refine j_goto (q := 10) hx (dc kX9_grow_0 57 rfl) (by decide) ?_
        exact j_back [1, 2, 0] ((x3 + (-1 : Int32)), h) rfl rfl
      have hb17 : ∀ (x0 : Nat) (x2 : Int32) (x3 : Int32) (x4 : Int32) (h : Hp), J x 17 [(0, vR x.2.2.2 x0), (2, .int x2), (3, .int x3), (4, .int x4)] [] h (mX9_grow_l17 x0 x2 x3 x4 h) (TL (S := (Int32 × Hp)) x 10 (fun s => [(0, vR x.2.2.2 x0), (2, .int x2), (3, .int s.1)]) [] (fun s => s.2) (fun r => r = u)) := by
        intro x0 x2 x3 x4 h
        have hB : ∀ (x4 : Int32) (h : Hp), J x 17 [(0, vR x.2.2.2 x0), (2, .int x2), (3, .int x3), (4, .int x4)] [] h (mX9_grow_l17f x0 x2 x3 x4 h) (TL (S := (Int32 × Hp)) x 17 (fun s => [(0, vR x.2.2.2 x0), (2, .int x2), (3, .int x3), (4, .int s.1)]) [] (fun s => s.2) (TL (S := (Int32 × Hp)) x 10 (fun s => [(0, vR x.2.2.2 x0), (2, .int x2), (3, .int s.1)]) [] (fun s => s.2) (fun r => r = u))) := by
          intro x4 h
          have hb97 : ∀ (x0 : Nat) (x2 : Int32) (x3 : Int32) (x4 : Int32) (h : Hp), J x 97 [(0, vR x.2.2.2 x0), (2, .int x2), (3, .int x3), (4, .int x4)] [] h (mX9_grow_b97 x0 x2 x3 x4 h) (TL (S := (Int32 × Hp)) x 17 (fun s => [(0, vR x.2.2.2 x0), (2, .int x2), (3, .int x3), (4, .int s.1)]) [] (fun s => s.2) (TL (S := (Int32 × Hp)) x 10 (fun s => [(0, vR x.2.2.2 x0), (2, .int x2), (3, .int s.1)]) [] (fun s => s.2) (fun r => r = u))) := by
            intro x0 x2 x3 x4 h
            unfold mX9_grow_b97
            refine j_iinc (q := 100) (l2 := [(0, vR x.2.2.2 x0), (2, .int x2), (3, .int x3)]) hx (dc kX9_grow_0 54 rfl) 3 rfl (v := (-1 : Int32)) (by decide) (hn 4 (by decide)) [0, 1, 2] rfl ⟨⟨show (0 : Nat) ≠ 4 by decide, Or.inl (show (0 : Nat) + 1 ≠ 4 by decide)⟩, ⟨⟨show (2 : Nat) ≠ 4 by decide, Or.inl (show (2 : Nat) + 1 ≠ 4 by decide)⟩, ⟨⟨show (3 : Nat) ≠ 4 by decide, Or.inr rfl⟩, trivial⟩⟩⟩ rfl ?_
            refine j_goto (q := 17) hx (dc kX9_grow_0 55 rfl) (by decide) ?_
            exact j_back [1, 2, 3, 0] ((x4 + (-1 : Int32)), h) rfl rfl
          have hb94 : ∀ (x0 : Nat) (x2 : Int32) (x3 : Int32) (x4 : Int32) (t0 : Nat) (t1 : Int32) (t2 : Int32) (h : Hp), J x 94 [(0, vR x.2.2.2 x0), (2, .int x2), (3, .int x3), (4, .int x4)] [.int t2, .int t1, vR x.2.2.2 t0] h (mX9_grow_b94 x0 x2 x3 x4 t0 t1 t2 h) (TL (S := (Int32 × Hp)) x 17 (fun s => [(0, vR x.2.2.2 x0), (2, .int x2), (3, .int x3), (4, .int s.1)]) [] (fun s => s.2) (TL (S := (Int32 × Hp)) x 10 (fun s => [(0, vR x.2.2.2 x0), (2, .int x2), (3, .int s.1)]) [] (fun s => s.2) (fun r => r = u))) := by
            intro x0 x2 x3 x4 t0 t1 t2 h
            unfold mX9_grow_b94
            refine w_cSVW (q := 97) (As := [vR x.2.2.2 t0, .int t1, .int t2]) (st := []) hx (dc kX9_grow_0 53 rfl) (cI _ my_X11_put lm_X9_28 (by decide)) st_X11_put rfl (fun u hu => sX11_put _ _ _ _ _ _ _ hu) (Nat.zero_le _) rfl (fun h11 => ?_)
            exact hb97 x0 x2 x3 x4 h11
          unfold mX9_grow_l17f
          refine j_iload (q := 19) hx (dc kX9_grow_0 10 rfl) 3 rfl rfl ?_
          refine j_if_lt (q := 22) (tgt := 103) hx (dc kX9_grow_0 11 rfl) (by decide) Iff.rfl rfl ?_ ?_
          · refine j_exit ?_
            exact j_sub [0, 1, 2] rfl (hb103 x0 x2 x3 h)
          · refine j_iload_n (q := 23) hx (dc kX9_grow_0 12 rfl) rfl 2 rfl rfl ?_
            refine j_aload_n (q := 24) hx (dc kX9_grow_0 13 rfl) rfl 0 rfl rfl ?_
            refine w_gI (q := 27) hx (dc kX9_grow_0 14 rfl) ff_X9_4 lk_X9_36 rfl (fun v3 => ?_)
            refine j_iconst (q := 28) (v := (-1 : Int32)) hx (dc kX9_grow_0 15 rfl) (by decide) rfl ?_
            refine j_ixor (q := 29) hx (dc kX9_grow_0 16 rfl) rfl ?_
            refine j_iand (q := 30) hx (dc kX9_grow_0 17 rfl) rfl ?_
            refine j_if_neS (q := 33) (tgt := 103) hx (dc kX9_grow_0 18 rfl) (by decide) rfl ?_ ?_
            · refine j_exit ?_
              exact j_sub [0, 1, 2] rfl (hb103 x0 x2 x3 h)
            · refine j_iload (q := 35) hx (dc kX9_grow_0 19 rfl) 3 rfl rfl ?_
              refine j_iload_n (q := 36) hx (dc kX9_grow_0 20 rfl) rfl 2 rfl rfl ?_
              refine j_iconst (q := 37) (v := (-1 : Int32)) hx (dc kX9_grow_0 21 rfl) (by decide) rfl ?_
              refine j_ixor (q := 38) hx (dc kX9_grow_0 22 rfl) rfl ?_
              refine j_iand (q := 39) hx (dc kX9_grow_0 23 rfl) rfl ?_
              refine j_if_neS (q := 42) (tgt := 97) hx (dc kX9_grow_0 24 rfl) (by decide) rfl ?_ ?_
              · exact hb97 x0 x2 x3 x4 h
              · refine j_aload_n (q := 43) hx (dc kX9_grow_0 25 rfl) rfl 0 rfl rfl ?_
                refine j_iload_n (q := 44) hx (dc kX9_grow_0 26 rfl) rfl 2 rfl rfl ?_
                refine j_iload (q := 46) hx (dc kX9_grow_0 27 rfl) 3 rfl rfl ?_
                refine w_cVIR (q := 49) (As := [.int x3, .int x4]) (st := []) hx (dc kX9_grow_0 28 rfl) cf9 (by decide) rfl (cI _ my_X9_node lm_X9_32 (by decide)) vs_X9_node rfl (fun u hu => sX9_node _ _ _ _ _ _ _ hu) (fun e => ite_ne (by unfold mX9_node at e; exact e)) (Nat.zero_le _) rfl (fun v4 => ?_)
                refine j_istore (q := 51) (i := 5) (l2 := [(0, vR x.2.2.2 x0), (2, .int x2), (3, .int x3), (4, .int x4)]) hx (dc kX9_grow_0 29 rfl) (hn 5 (by decide)) [0, 1, 2, 3] rfl ⟨⟨show (0 : Nat) ≠ 5 by decide, Or.inl (show (0 : Nat) + 1 ≠ 5 by decide)⟩, ⟨⟨show (2 : Nat) ≠ 5 by decide, Or.inl (show (2 : Nat) + 1 ≠ 5 by decide)⟩, ⟨⟨show (3 : Nat) ≠ 5 by decide, Or.inl (show (3 : Nat) + 1 ≠ 5 by decide)⟩, ⟨⟨show (4 : Nat) ≠ 5 by decide, Or.inr rfl⟩, trivial⟩⟩⟩⟩ rfl ?_
                refine j_aload_n (q := 52) hx (dc kX9_grow_0 30 rfl) rfl 1 rfl rfl ?_
                refine w_gI (q := 55) hx (dc kX9_grow_0 31 rfl) ff_X9_4 lk_X9_36 rfl (fun v6 => ?_)
                refine j_iload_n (q := 56) hx (dc kX9_grow_0 32 rfl) rfl 3 rfl rfl ?_
                refine j_iconst (q := 57) (v := (-1 : Int32)) hx (dc kX9_grow_0 33 rfl) (by decide) rfl ?_
                refine j_ixor (q := 58) hx (dc kX9_grow_0 34 rfl) rfl ?_
                refine j_iand (q := 59) hx (dc kX9_grow_0 35 rfl) rfl ?_
                refine j_istore (q := 61) (i := 6) (l2 := [(5, .int v4), (0, vR x.2.2.2 x0), (2, .int x2), (3, .int x3), (4, .int x4)]) hx (dc kX9_grow_0 36 rfl) (hn 6 (by decide)) [0, 1, 2, 3, 4] rfl ⟨⟨show (5 : Nat) ≠ 6 by decide, Or.inr rfl⟩, ⟨⟨show (0 : Nat) ≠ 6 by decide, Or.inl (show (0 : Nat) + 1 ≠ 6 by decide)⟩, ⟨⟨show (2 : Nat) ≠ 6 by decide, Or.inl (show (2 : Nat) + 1 ≠ 6 by decide)⟩, ⟨⟨show (3 : Nat) ≠ 6 by decide, Or.inl (show (3 : Nat) + 1 ≠ 6 by decide)⟩, ⟨⟨show (4 : Nat) ≠ 6 by decide, Or.inl (show (4 : Nat) + 1 ≠ 6 by decide)⟩, trivial⟩⟩⟩⟩⟩ rfl ?_
                refine j_aload_n (q := 62) hx (dc kX9_grow_0 37 rfl) rfl 2 rfl rfl ?_
                refine w_gR (q := 65) hx (dc kX9_grow_0 38 rfl) ff_X9_2 lk_X9_18 rfl (fun v7 => ?_)
                refine j_iload (q := 67) hx (dc kX9_grow_0 39 rfl) 1 rfl rfl ?_
                refine j_iload (q := 69) hx (dc kX9_grow_0 40 rfl) 0 rfl rfl ?_
                refine j_if_neS (q := 72) (tgt := 86) hx (dc kX9_grow_0 41 rfl) (by decide) rfl ?_ ?_
                · refine j_aload_n (q := 87) hx (dc kX9_grow_0 49 rfl) rfl 2 rfl rfl ?_
                  refine j_iload (q := 89) hx (dc kX9_grow_0 50 rfl) 1 rfl rfl ?_
                  refine j_iload (q := 91) hx (dc kX9_grow_0 51 rfl) 0 rfl rfl ?_
                  refine w_cVIR (q := 94) (As := [.int v4, .int (v6 &&& (x3 ^^^ (-1 : Int32)))]) (st := [.int v4, vR x.2.2.2 v7]) hx (dc kX9_grow_0 52 rfl) cf9 (by decide) rfl (cI _ my_X9_markFrom lm_X9_40 (by decide)) vs_X9_markFrom rfl (fun u hu => sX9_markFrom _ _ _ _ _ _ _ hu) (fun e => ite_ne (by unfold mX9_markFrom at e; exact e)) (sum_le (sum_I (sum_R sum_nil)) (by decide)) rfl (fun v8 => ?_)
                  exact j_sub [2, 3, 4, 5] rfl (hb94 x0 x2 x3 x4 v7 v4 v8 h)
                · refine j_aload_n (q := 73) hx (dc kX9_grow_0 42 rfl) rfl 2 rfl rfl ?_
                  refine w_gR (q := 76) hx (dc kX9_grow_0 43 rfl) ff_X9_1 lk_X9_15 rfl (fun v12 => ?_)
                  refine j_iload (q := 78) hx (dc kX9_grow_0 44 rfl) 5 rfl rfl ?_
                  refine j_iload_n (q := 79) hx (dc kX9_grow_0 45 rfl) rfl 3 rfl rfl ?_
                  refine j_ior (q := 80) hx (dc kX9_grow_0 46 rfl) rfl ?_
                  refine w_cSIR (q := 83) (As := [vR x.2.2.2 v12, .int (x4 ||| x2)]) (st := [.int v4, vR x.2.2.2 v7]) hx (dc kX9_grow_0 47 rfl) (cI _ my_X11_at lm_X9_24 (by decide)) st_X11_at rfl (fun u hu => sX11_at _ _ _ _ _ _ hu) (sum_le (sum_I (sum_R sum_nil)) (by decide)) rfl (fun v13 => ?_)
                  refine j_goto (q := 94) hx (dc kX9_grow_0 48 rfl) (by decide) ?_
                  exact j_sub [2, 3, 4, 5] rfl (hb94 x0 x2 x3 x4 v7 v4 v13 h)
        exact j_loop (S := (Int32 × Hp)) (lvf := fun s => [(0, vR x.2.2.2 x0), (2, .int x2), (3, .int x3), (4, .int s.1)]) (hpf := fun s => s.2) (f := (fun s : (Int32 × Hp) => mX9_grow_l17f x0 x2 x3 s.1 s.2)) (fun s => hB s.1 s.2) (x4, h)
      unfold mX9_grow_l10f
      refine j_iload_n (q := 11) hx (dc kX9_grow_0 6 rfl) rfl 2 rfl rfl ?_
      refine j_if_lt (q := 14) (tgt := 109) hx (dc kX9_grow_0 7 rfl) (by decide) Iff.rfl rfl ?_ ?_
      · refine j_exit ?_
        exact r_vW hx hR (dc kX9_grow_0 58 rfl)
      · refine j_iload_n (q := 15) hx (dc kX9_grow_0 8 rfl) rfl 2 rfl rfl ?_
        refine j_istore (q := 17) (i := 4) (l2 := [(0, vR x.2.2.2 x0), (2, .int x2), (3, .int x3)]) hx (dc kX9_grow_0 9 rfl) (hn 4 (by decide)) [0, 1, 2] rfl ⟨⟨show (0 : Nat) ≠ 4 by decide, Or.inl (show (0 : Nat) + 1 ≠ 4 by decide)⟩, ⟨⟨show (2 : Nat) ≠ 4 by decide, Or.inl (show (2 : Nat) + 1 ≠ 4 by decide)⟩, ⟨⟨show (3 : Nat) ≠ 4 by decide, Or.inr rfl⟩, trivial⟩⟩⟩ rfl ?_
        exact j_sub [1, 2, 3, 0] rfl (hb17 x0 x2 x3 x3 h)
    exact j_loop (S := (Int32 × Hp)) (lvf := fun s => [(0, vR x.2.2.2 x0), (2, .int x2), (3, .int s.1)]) (hpf := fun s => s.2) (f := (fun s : (Int32 × Hp) => mX9_grow_l10f x0 x2 s.1 s.2)) (fun s => hB s.1 s.2) (x3, h)
  unfold mX9_grow
  refine J.ckd fun hk0 => ?_
  refine j_aload_n (q := 1) hx (dc kX9_grow_0 0 rfl) rfl 0 rfl rfl ?_
  refine j_iload_n (q := 2) hx (dc kX9_grow_0 1 rfl) rfl 1 rfl rfl ?_
  refine w_sI (q := 5) hx (dc kX9_grow_0 2 rfl) ff_X9_4 rfl lk_X9_36 (Or.inl rfl) rfl (fun h1 => ?_)
  refine j_aload_n (q := 6) hx (dc kX9_grow_0 3 rfl) rfl 0 rfl rfl ?_
  refine w_gI (q := 9) hx (dc kX9_grow_0 4 rfl) ff_X9_4 lk_X9_36 rfl (fun v2 => ?_)
  refine j_istore_n (q := 10) (i := 3) (l2 := [(0, vR x.2.2.2 x0), (2, .int x2)]) hx (dc kX9_grow_0 5 rfl) rfl (hn 3 (by decide)) [0, 2] rfl ⟨⟨show (0 : Nat) ≠ 3 by decide, Or.inl (show (0 : Nat) + 1 ≠ 3 by decide)⟩, ⟨⟨show (2 : Nat) ≠ 3 by decide, Or.inr rfl⟩, trivial⟩⟩ rfl ?_
  exact j_sub [1, 2, 0] rfl (hb10 x0 x2 v2 h1)

set_option maxHeartbeats 4000000 in
set_option maxRecDepth 100000 in
theorem sX9_trialsBy (l : Launch) (w : Wd) (x0 : Nat) (x1 : Int32) (x2 : Int32) (h : Hp) (u : Int32) (hK : mX9_trialsBy x0 x1 x2 h = some u) : M1 l w mi_X9_trialsBy 2 [vR w x0, .int x1, .int x2] h h (some (.int u)) := by
  refine M1.of (own := RX9) (T := fun _ r => r = u) hK (by decide +kernel) rfl (by first | (simp only [lg_lenR, lg_lenI, lg_lenL, lg_len0]; decide) | decide) (fun x hx hnl hhf hl hw hret hnm hQ h0e => ⟨?_, rfl⟩)
  subst hw
  subst hl
  have hR : Rt x h h (some (.int u)) ((some .int)) := ⟨h0e, hhf, hret, hQ⟩
  have hn : ∀ i, i < 4 → i < x.2.2.1.1.1 := fun i hi => by rw [hnl]; exact hi
  have e0 : lv_args 0 [vR x.2.2.2 x0, .int x1, .int x2] = [(0, vR x.2.2.2 x0), (1, .int x1), (2, .int x2)] := by simp only [lv_argsR, lv_argsI, lv_argsL, lv_args0]
  rw [e0]
  unfold mX9_trialsBy
  refine J.ckd fun hk0 => ?_
  refine j_aload_n (q := 1) hx (dc kX9_trialsBy_0 0 rfl) rfl 0 rfl rfl ?_
  refine w_gR (q := 4) hx (dc kX9_trialsBy_0 1 rfl) ff_X9_0 lk_X9_9 rfl (fun v1 => ?_)
  refine j_iconst (q := 5) (v := (1 : Int32)) hx (dc kX9_trialsBy_0 2 rfl) (by decide) rfl ?_
  refine j_iload_n (q := 6) hx (dc kX9_trialsBy_0 3 rfl) rfl 1 rfl rfl ?_
  refine j_ishl (q := 7) hx (dc kX9_trialsBy_0 4 rfl) rfl ?_
  refine w_cSIR (q := 10) (As := [vR x.2.2.2 v1, .int ((1 : Int32) <<< (x1 &&& 31))]) (st := []) hx (dc kX9_trialsBy_0 5 rfl) (cI _ my_X11_at lm_X9_24 (by decide)) st_X11_at rfl (fun u hu => sX11_at _ _ _ _ _ _ hu) (Nat.zero_le _) rfl (fun v2 => ?_)
  refine j_istore_n (q := 11) (i := 3) (l2 := [(0, vR x.2.2.2 x0), (2, .int x2)]) hx (dc kX9_trialsBy_0 6 rfl) rfl (hn 3 (by decide)) [0, 2] rfl ⟨⟨show (0 : Nat) ≠ 3 by decide, Or.inl (show (0 : Nat) + 1 ≠ 3 by decide)⟩, ⟨⟨show (2 : Nat) ≠ 3 by decide, Or.inr rfl⟩, trivial⟩⟩ rfl ?_
  refine j_iconst (q := 12) (v := (1 : Int32)) hx (dc kX9_trialsBy_0 7 rfl) (by decide) rfl ?_
  refine j_aload_n (q := 13) hx (dc kX9_trialsBy_0 8 rfl) rfl 1 rfl rfl ?_
  refine w_gR (q := 16) hx (dc kX9_trialsBy_0 9 rfl) ff_X9_3 lk_X9_21 rfl (fun v4 => ?_)
  refine j_iload_n (q := 17) hx (dc kX9_trialsBy_0 10 rfl) rfl 2 rfl rfl ?_
  refine j_iload_n (q := 18) hx (dc kX9_trialsBy_0 11 rfl) rfl 0 rfl rfl ?_
  refine j_iadd (q := 19) hx (dc kX9_trialsBy_0 12 rfl) rfl ?_
  refine w_cSIR (q := 22) (As := [vR x.2.2.2 v4, .int (x2 + v2)]) (st := [.int (1 : Int32)]) hx (dc kX9_trialsBy_0 13 rfl) (cI _ my_X11_at lm_X9_24 (by decide)) st_X11_at rfl (fun u hu => sX11_at _ _ _ _ _ _ hu) (sum_le (sum_I sum_nil) (by decide)) rfl (fun v5 => ?_)
  refine j_aload_n (q := 23) hx (dc kX9_trialsBy_0 14 rfl) rfl 1 rfl rfl ?_
  refine w_gR (q := 26) hx (dc kX9_trialsBy_0 15 rfl) ff_X9_3 lk_X9_21 rfl (fun v7 => ?_)
  refine j_iload_n (q := 27) hx (dc kX9_trialsBy_0 16 rfl) rfl 2 rfl rfl ?_
  refine j_iconst (q := 28) (v := (2 : Int32)) hx (dc kX9_trialsBy_0 17 rfl) (by decide) rfl ?_
  refine j_iload_n (q := 29) hx (dc kX9_trialsBy_0 18 rfl) rfl 0 rfl rfl ?_
  refine j_imul (q := 30) hx (dc kX9_trialsBy_0 19 rfl) rfl ?_
  refine j_iadd (q := 31) hx (dc kX9_trialsBy_0 20 rfl) rfl ?_
  refine w_cSIR (q := 34) (As := [vR x.2.2.2 v7, .int (x2 + ((2 : Int32) * v2))]) (st := [.int v5, .int (1 : Int32)]) hx (dc kX9_trialsBy_0 21 rfl) (cI _ my_X11_at lm_X9_24 (by decide)) st_X11_at rfl (fun u hu => sX11_at _ _ _ _ _ _ hu) (sum_le (sum_I (sum_I sum_nil)) (by decide)) rfl (fun v8 => ?_)
  refine w_mmax (q := 37) hx (dc kX9_trialsBy_0 22 rfl) lm_X9_58 ms_mmax ms_init mc_mmax (by decide) (sum_le (sum_I sum_nil) (by decide)) rfl ?_
  refine j_iadd (q := 38) hx (dc kX9_trialsBy_0 23 rfl) rfl ?_
  exact r_iR hx hR (dc kX9_trialsBy_0 24 rfl)

set_option maxHeartbeats 4000000 in
set_option maxRecDepth 100000 in
theorem sX9_fewestTrials (l : Launch) (w : Wd) (x0 : Nat) (x1 : Int32) (x2 : Int32) (h : Hp) (u : Int32) (hK : mX9_fewestTrials x0 x1 x2 h = some u) : M1 l w mi_X9_fewestTrials 3 [vR w x0, .int x1, .int x2] h h (some (.int u)) := by
  refine M1.of (own := RX9) (T := fun _ r => r = u) hK (by decide +kernel) rfl (by first | (simp only [lg_lenR, lg_lenI, lg_lenL, lg_len0]; decide) | decide) (fun x hx hnl hhf hl hw hret hnm hQ h0e => ⟨?_, rfl⟩)
  subst hw
  subst hl
  have hR : Rt x h h (some (.int u)) ((some .int)) := ⟨h0e, hhf, hret, hQ⟩
  have hn : ∀ i, i < 5 → i < x.2.2.1.1.1 := fun i hi => by rw [hnl]; exact hi
  have e0 : lv_args 0 [vR x.2.2.2 x0, .int x1, .int x2] = [(0, vR x.2.2.2 x0), (1, .int x1), (2, .int x2)] := by simp only [lv_argsR, lv_argsI, lv_argsL, lv_args0]
  rw [e0]
  have hb6 : ∀ (x0 : Nat) (x1 : Int32) (x2 : Int32) (x3 : Int32) (x4 : Int32), J x 6 [(0, vR x.2.2.2 x0), (1, .int x1), (2, .int x2), (3, .int x3), (4, .int x4)] [] h (mX9_fewestTrials_l6 x0 x1 x2 x3 x4 h) (fun r => r = u) := by
    intro x0 x1 x2 x3 x4
    have hB : ∀ (x3 : Int32) (x4 : Int32), J x 6 [(0, vR x.2.2.2 x0), (1, .int x1), (2, .int x2), (3, .int x3), (4, .int x4)] [] h (mX9_fewestTrials_l6f x0 x1 x2 h x3 x4) (TL (S := (Int32 × Int32)) x 6 (fun s => [(0, vR x.2.2.2 x0), (1, .int x1), (2, .int x2), (3, .int s.1), (4, .int s.2)]) [] (fun s => h) (fun r => r = u)) := by
      intro x3 x4
      have hb41 : ∀ (x0 : Nat) (x1 : Int32) (x2 : Int32) (x3 : Int32) (x4 : Int32), J x 41 [(0, vR x.2.2.2 x0), (1, .int x1), (2, .int x2), (3, .int x3), (4, .int x4)] [] h (mX9_fewestTrials_b41 x0 x1 x2 x3 x4 h) (TL (S := (Int32 × Int32)) x 6 (fun s => [(0, vR x.2.2.2 x0), (1, .int x1), (2, .int x2), (3, .int s.1), (4, .int s.2)]) [] (fun s => h) (fun r => r = u)) := by
        intro x0 x1 x2 x3 x4
        unfold mX9_fewestTrials_b41
        refine j_iinc (q := 44) (l2 := [(0, vR x.2.2.2 x0), (1, .int x1), (2, .int x2), (3, .int x3)]) hx (dc kX9_fewestTrials_0 23 rfl) 4 rfl (v := (1 : Int32)) (by decide) (hn 4 (by decide)) [0, 1, 2, 3] rfl ⟨⟨show (0 : Nat) ≠ 4 by decide, Or.inl (show (0 : Nat) + 1 ≠ 4 by decide)⟩, ⟨⟨show (1 : Nat) ≠ 4 by decide, Or.inl (show (1 : Nat) + 1 ≠ 4 by decide)⟩, ⟨⟨show (2 : Nat) ≠ 4 by decide, Or.inl (show (2 : Nat) + 1 ≠ 4 by decide)⟩, ⟨⟨show (3 : Nat) ≠ 4 by decide, Or.inr rfl⟩, trivial⟩⟩⟩⟩ rfl ?_
        refine j_goto (q := 6) hx (dc kX9_fewestTrials_0 24 rfl) (by decide) ?_
        exact j_back [1, 2, 3, 4, 0] (x3, (x4 + (1 : Int32))) rfl rfl
      unfold mX9_fewestTrials_l6f
      refine j_iload (q := 8) hx (dc kX9_fewestTrials_0 4 rfl) 4 rfl rfl ?_
      refine j_bipush (q := 10) (v := (8 : Int32)) hx (dc kX9_fewestTrials_0 5 rfl) (by decide) rfl ?_
      refine j_icmp_geS (q := 13) (tgt := 47) hx (dc kX9_fewestTrials_0 6 rfl) (by decide) rfl ?_ ?_
      · refine j_exit ?_
        refine j_iload_n (q := 48) hx (dc kX9_fewestTrials_0 25 rfl) rfl 3 rfl rfl ?_
        exact r_iR hx hR (dc kX9_fewestTrials_0 26 rfl)
      · refine j_aload_n (q := 14) hx (dc kX9_fewestTrials_0 7 rfl) rfl 0 rfl rfl ?_
        refine w_gI (q := 17) hx (dc kX9_fewestTrials_0 8 rfl) ff_X9_4 lk_X9_36 rfl (fun v1 => ?_)
        refine j_iload_n (q := 18) hx (dc kX9_fewestTrials_0 9 rfl) rfl 1 rfl rfl ?_
        refine j_iconst (q := 19) (v := (-1 : Int32)) hx (dc kX9_fewestTrials_0 10 rfl) (by decide) rfl ?_
        refine j_ixor (q := 20) hx (dc kX9_fewestTrials_0 11 rfl) rfl ?_
        refine j_iand (q := 21) hx (dc kX9_fewestTrials_0 12 rfl) rfl ?_
        refine j_iload (q := 23) hx (dc kX9_fewestTrials_0 13 rfl) 4 rfl rfl ?_
        refine w_cSIR (q := 26) (As := [.int (v1 &&& (x1 ^^^ (-1 : Int32))), .int x4]) (st := []) hx (dc kX9_fewestTrials_0 14 rfl) (cI _ my_X11_has lm_X9_46 (by decide)) st_X11_has rfl (fun u hu => sX11_has _ _ _ _ _ _ hu) (Nat.zero_le _) rfl (fun v2 => ?_)
        refine j_if_eq (q := 29) (tgt := 41) hx (dc kX9_fewestTrials_0 15 rfl) (by decide) Iff.rfl rfl ?_ ?_
        · exact hb41 x0 x1 x2 x3 x4
        · refine j_iload_n (q := 30) hx (dc kX9_fewestTrials_0 16 rfl) rfl 3 rfl rfl ?_
          refine j_aload_n (q := 31) hx (dc kX9_fewestTrials_0 17 rfl) rfl 0 rfl rfl ?_
          refine j_iload (q := 33) hx (dc kX9_fewestTrials_0 18 rfl) 4 rfl rfl ?_
          refine j_iload_n (q := 34) hx (dc kX9_fewestTrials_0 19 rfl) rfl 2 rfl rfl ?_
          refine w_cVIR (q := 37) (As := [.int x4, .int x2]) (st := [.int x3]) hx (dc kX9_fewestTrials_0 20 rfl) cf9 (by decide) rfl (cI _ my_X9_trialsBy lm_X9_50 (by decide)) vs_X9_trialsBy rfl (fun u hu => sX9_trialsBy _ _ _ _ _ _ _ hu) (fun e => ite_ne (by unfold mX9_trialsBy at e; exact e)) (sum_le (sum_I sum_nil) (by decide)) rfl (fun v4 => ?_)
          refine w_mmin (q := 40) hx (dc kX9_fewestTrials_0 21 rfl) lm_X9_53 ms_mmin ms_init mc_mmin (by decide) (Nat.zero_le _) rfl ?_
          refine j_istore_n (q := 41) (i := 3) (l2 := [(0, vR x.2.2.2 x0), (1, .int x1), (2, .int x2), (4, .int x4)]) hx (dc kX9_fewestTrials_0 22 rfl) rfl (hn 3 (by decide)) [0, 1, 2, 4] rfl ⟨⟨show (0 : Nat) ≠ 3 by decide, Or.inl (show (0 : Nat) + 1 ≠ 3 by decide)⟩, ⟨⟨show (1 : Nat) ≠ 3 by decide, Or.inl (show (1 : Nat) + 1 ≠ 3 by decide)⟩, ⟨⟨show (2 : Nat) ≠ 3 by decide, Or.inr rfl⟩, ⟨⟨show (4 : Nat) ≠ 3 by decide, Or.inl (show (4 : Nat) + 1 ≠ 3 by decide)⟩, trivial⟩⟩⟩⟩ rfl ?_
          exact j_sub [1, 2, 3, 0, 4] rfl (hb41 x0 x1 x2 (mmin x3 v4) x4)
    exact j_loop (S := (Int32 × Int32)) (lvf := fun s => [(0, vR x.2.2.2 x0), (1, .int x1), (2, .int x2), (3, .int s.1), (4, .int s.2)]) (hpf := fun s => h) (f := (fun s : (Int32 × Int32) => mX9_fewestTrials_l6f x0 x1 x2 h s.1 s.2)) (fun s => hB s.1 s.2) (x3, x4)
  unfold mX9_fewestTrials
  refine J.ckd fun hk0 => ?_
  refine j_bipush (q := 2) (v := (8 : Int32)) hx (dc kX9_fewestTrials_0 0 rfl) (by decide) rfl ?_
  refine j_istore_n (q := 3) (i := 3) (l2 := [(0, vR x.2.2.2 x0), (1, .int x1), (2, .int x2)]) hx (dc kX9_fewestTrials_0 1 rfl) rfl (hn 3 (by decide)) [0, 1, 2] rfl ⟨⟨show (0 : Nat) ≠ 3 by decide, Or.inl (show (0 : Nat) + 1 ≠ 3 by decide)⟩, ⟨⟨show (1 : Nat) ≠ 3 by decide, Or.inl (show (1 : Nat) + 1 ≠ 3 by decide)⟩, ⟨⟨show (2 : Nat) ≠ 3 by decide, Or.inr rfl⟩, trivial⟩⟩⟩ rfl ?_
  refine j_iconst (q := 4) (v := (0 : Int32)) hx (dc kX9_fewestTrials_0 2 rfl) (by decide) rfl ?_
  refine j_istore (q := 6) (i := 4) (l2 := [(3, .int (8 : Int32)), (0, vR x.2.2.2 x0), (1, .int x1), (2, .int x2)]) hx (dc kX9_fewestTrials_0 3 rfl) (hn 4 (by decide)) [0, 1, 2, 3] rfl ⟨⟨show (3 : Nat) ≠ 4 by decide, Or.inr rfl⟩, ⟨⟨show (0 : Nat) ≠ 4 by decide, Or.inl (show (0 : Nat) + 1 ≠ 4 by decide)⟩, ⟨⟨show (1 : Nat) ≠ 4 by decide, Or.inl (show (1 : Nat) + 1 ≠ 4 by decide)⟩, ⟨⟨show (2 : Nat) ≠ 4 by decide, Or.inl (show (2 : Nat) + 1 ≠ 4 by decide)⟩, trivial⟩⟩⟩⟩ rfl ?_
  exact j_sub [2, 3, 4, 1, 0] rfl (hb6 x0 x1 x2 (8 : Int32) (0 : Int32))

set_option maxHeartbeats 4000000 in
set_option maxRecDepth 100000 in
theorem sX9_countTrials (l : Launch) (w : Wd) (x0 : Nat) (h : Hp) (u : Hp) (hK : mX9_countTrials x0 h = some u) : M1 l w mi_X9_countTrials 4 [vR w x0] h u (none) := by
  refine M1.of (own := RX9) (T := fun _ r => r = u) hK (by decide +kernel) rfl (by first | (simp only [lg_lenR, lg_lenI, lg_lenL, lg_len0]; decide) | decide) (fun x hx hnl hhf hl hw hret hnm hQ h0e => ⟨?_, rfl⟩)
  subst hw
  subst hl
  have hR : Rt x h u (none) (none) := ⟨h0e, hhf, hret, hQ⟩
  have hn : ∀ i, i < 4 → i < x.2.2.1.1.1 := fun i hi => by rw [hnl]; exact hi
  have e0 : lv_args 0 [vR x.2.2.2 x0] = [(0, vR x.2.2.2 x0)] := by simp only [lv_argsR, lv_argsI, lv_argsL, lv_args0]
  rw [e0]
  have hb5 : ∀ (x0 : Nat) (x1 : Int32) (h : Hp), J x 5 [(0, vR x.2.2.2 x0), (1, .int x1)] [] h (mX9_countTrials_l5 x0 x1 h) (fun r => r = u) := by
    intro x0 x1 h
    have hB : ∀ (x1 : Int32) (h : Hp), J x 5 [(0, vR x.2.2.2 x0), (1, .int x1)] [] h (mX9_countTrials_l5f x0 x1 h) (TL (S := (Int32 × Hp)) x 5 (fun s => [(0, vR x.2.2.2 x0), (1, .int s.1)]) [] (fun s => s.2) (fun r => r = u)) := by
      intro x1 h
      have hb77 : ∀ (x0 : Nat) (x1 : Int32) (h : Hp), J x 77 [(0, vR x.2.2.2 x0), (1, .int x1)] [] h (mX9_countTrials_b77 x0 x1 h) (TL (S := (Int32 × Hp)) x 5 (fun s => [(0, vR x.2.2.2 x0), (1, .int s.1)]) [] (fun s => s.2) (fun r => r = u)) := by
        intro x0 x1 h
        unfold mX9_countTrials_b77
        refine j_iinc (q := 80) (l2 := [(0, vR x.2.2.2 x0)]) hx (dc kX9_countTrials_0 45 rfl) 1 rfl (v := (-1 : Int32)) (by decide) (hn 1 (by decide)) [0] rfl ⟨⟨show (0 : Nat) ≠ 1 by decide, Or.inr (vR_cat _ _)⟩, trivial⟩ rfl ?_
        refine j_goto (q := 5) hx (dc kX9_countTrials_0 46 rfl) (by decide) ?_
        exact j_back [1, 0] ((x1 + (-1 : Int32)), h) rfl rfl
      have hb11 : ∀ (x0 : Nat) (x1 : Int32) (x2 : Int32) (h : Hp), J x 11 [(0, vR x.2.2.2 x0), (1, .int x1), (2, .int x2)] [] h (mX9_countTrials_l11 x0 x1 x2 h) (TL (S := (Int32 × Hp)) x 5 (fun s => [(0, vR x.2.2.2 x0), (1, .int s.1)]) [] (fun s => s.2) (fun r => r = u)) := by
        intro x0 x1 x2 h
        have hB : ∀ (x2 : Int32) (h : Hp), J x 11 [(0, vR x.2.2.2 x0), (1, .int x1), (2, .int x2)] [] h (mX9_countTrials_l11f x0 x1 x2 h) (TL (S := (Int32 × Hp)) x 11 (fun s => [(0, vR x.2.2.2 x0), (1, .int x1), (2, .int s.1)]) [] (fun s => s.2) (TL (S := (Int32 × Hp)) x 5 (fun s => [(0, vR x.2.2.2 x0), (1, .int s.1)]) [] (fun s => s.2) (fun r => r = u))) := by
          intro x2 h
          have hb71 : ∀ (x0 : Nat) (x1 : Int32) (x2 : Int32) (h : Hp), J x 71 [(0, vR x.2.2.2 x0), (1, .int x1), (2, .int x2)] [] h (mX9_countTrials_b71 x0 x1 x2 h) (TL (S := (Int32 × Hp)) x 11 (fun s => [(0, vR x.2.2.2 x0), (1, .int x1), (2, .int s.1)]) [] (fun s => s.2) (TL (S := (Int32 × Hp)) x 5 (fun s => [(0, vR x.2.2.2 x0), (1, .int s.1)]) [] (fun s => s.2) (fun r => r = u))) := by
            intro x0 x1 x2 h
            unfold mX9_countTrials_b71
            refine j_iinc (q := 74) (l2 := [(0, vR x.2.2.2 x0), (1, .int x1)]) hx (dc kX9_countTrials_0 43 rfl) 2 rfl (v := (-1 : Int32)) (by decide) (hn 2 (by decide)) [0, 1] rfl ⟨⟨show (0 : Nat) ≠ 2 by decide, Or.inl (show (0 : Nat) + 1 ≠ 2 by decide)⟩, ⟨⟨show (1 : Nat) ≠ 2 by decide, Or.inr rfl⟩, trivial⟩⟩ rfl ?_
            refine j_goto (q := 11) hx (dc kX9_countTrials_0 44 rfl) (by decide) ?_
            exact j_back [1, 2, 0] ((x2 + (-1 : Int32)), h) rfl rfl
          have hb68 : ∀ (x0 : Nat) (x1 : Int32) (x2 : Int32) (t0 : Nat) (t1 : Int32) (t2 : Int32) (h : Hp), J x 68 [(0, vR x.2.2.2 x0), (1, .int x1), (2, .int x2)] [.int t2, .int t1, vR x.2.2.2 t0] h (mX9_countTrials_b68 x0 x1 x2 t0 t1 t2 h) (TL (S := (Int32 × Hp)) x 11 (fun s => [(0, vR x.2.2.2 x0), (1, .int x1), (2, .int s.1)]) [] (fun s => s.2) (TL (S := (Int32 × Hp)) x 5 (fun s => [(0, vR x.2.2.2 x0), (1, .int s.1)]) [] (fun s => s.2) (fun r => r = u))) := by
            intro x0 x1 x2 t0 t1 t2 h
            unfold mX9_countTrials_b68
            refine w_cSVW (q := 71) (As := [vR x.2.2.2 t0, .int t1, .int t2]) (st := []) hx (dc kX9_countTrials_0 42 rfl) (cI _ my_X11_put lm_X9_28 (by decide)) st_X11_put rfl (fun u hu => sX11_put _ _ _ _ _ _ _ hu) (Nat.zero_le _) rfl (fun h10 => ?_)
            exact hb71 x0 x1 x2 h10
          unfold mX9_countTrials_l11f
          refine j_iload_n (q := 12) hx (dc kX9_countTrials_0 7 rfl) rfl 2 rfl rfl ?_
          refine j_if_lt (q := 15) (tgt := 77) hx (dc kX9_countTrials_0 8 rfl) (by decide) Iff.rfl rfl ?_ ?_
          · refine j_exit ?_
            exact j_sub [0, 1] rfl (hb77 x0 x1 h)
          · refine j_iload_n (q := 16) hx (dc kX9_countTrials_0 9 rfl) rfl 1 rfl rfl ?_
            refine j_aload_n (q := 17) hx (dc kX9_countTrials_0 10 rfl) rfl 0 rfl rfl ?_
            refine w_gI (q := 20) hx (dc kX9_countTrials_0 11 rfl) ff_X9_4 lk_X9_36 rfl (fun v2 => ?_)
            refine j_iconst (q := 21) (v := (-1 : Int32)) hx (dc kX9_countTrials_0 12 rfl) (by decide) rfl ?_
            refine j_ixor (q := 22) hx (dc kX9_countTrials_0 13 rfl) rfl ?_
            refine j_iand (q := 23) hx (dc kX9_countTrials_0 14 rfl) rfl ?_
            refine j_if_neS (q := 26) (tgt := 77) hx (dc kX9_countTrials_0 15 rfl) (by decide) rfl ?_ ?_
            · refine j_exit ?_
              exact j_sub [0, 1] rfl (hb77 x0 x1 h)
            · refine j_iload_n (q := 27) hx (dc kX9_countTrials_0 16 rfl) rfl 2 rfl rfl ?_
              refine j_iload_n (q := 28) hx (dc kX9_countTrials_0 17 rfl) rfl 1 rfl rfl ?_
              refine j_iconst (q := 29) (v := (-1 : Int32)) hx (dc kX9_countTrials_0 18 rfl) (by decide) rfl ?_
              refine j_ixor (q := 30) hx (dc kX9_countTrials_0 19 rfl) rfl ?_
              refine j_iand (q := 31) hx (dc kX9_countTrials_0 20 rfl) rfl ?_
              refine j_if_neS (q := 34) (tgt := 71) hx (dc kX9_countTrials_0 21 rfl) (by decide) rfl ?_ ?_
              · exact hb71 x0 x1 x2 h
              · refine j_aload_n (q := 35) hx (dc kX9_countTrials_0 22 rfl) rfl 0 rfl rfl ?_
                refine j_iload_n (q := 36) hx (dc kX9_countTrials_0 23 rfl) rfl 1 rfl rfl ?_
                refine j_iload_n (q := 37) hx (dc kX9_countTrials_0 24 rfl) rfl 2 rfl rfl ?_
                refine w_cVIR (q := 40) (As := [.int x1, .int x2]) (st := []) hx (dc kX9_countTrials_0 25 rfl) cf9 (by decide) rfl (cI _ my_X9_node lm_X9_32 (by decide)) vs_X9_node rfl (fun u hu => sX9_node _ _ _ _ _ _ _ hu) (fun e => ite_ne (by unfold mX9_node at e; exact e)) (Nat.zero_le _) rfl (fun v3 => ?_)
                refine j_istore_n (q := 41) (i := 3) (l2 := [(0, vR x.2.2.2 x0), (1, .int x1), (2, .int x2)]) hx (dc kX9_countTrials_0 26 rfl) rfl (hn 3 (by decide)) [0, 1, 2] rfl ⟨⟨show (0 : Nat) ≠ 3 by decide, Or.inl (show (0 : Nat) + 1 ≠ 3 by decide)⟩, ⟨⟨show (1 : Nat) ≠ 3 by decide, Or.inl (show (1 : Nat) + 1 ≠ 3 by decide)⟩, ⟨⟨show (2 : Nat) ≠ 3 by decide, Or.inr rfl⟩, trivial⟩⟩⟩ rfl ?_
                refine j_aload_n (q := 42) hx (dc kX9_countTrials_0 27 rfl) rfl 1 rfl rfl ?_
                refine w_gR (q := 45) hx (dc kX9_countTrials_0 28 rfl) ff_X9_3 lk_X9_21 rfl (fun v5 => ?_)
                refine j_iload_n (q := 46) hx (dc kX9_countTrials_0 29 rfl) rfl 0 rfl rfl ?_
                refine j_aload_n (q := 47) hx (dc kX9_countTrials_0 30 rfl) rfl 1 rfl rfl ?_
                refine w_gR (q := 50) hx (dc kX9_countTrials_0 31 rfl) ff_X9_2 lk_X9_18 rfl (fun v6 => ?_)
                refine j_iload_n (q := 51) hx (dc kX9_countTrials_0 32 rfl) rfl 0 rfl rfl ?_
                refine w_cSIR (q := 54) (As := [vR x.2.2.2 v6, .int v3]) (st := [.int v3, vR x.2.2.2 v5]) hx (dc kX9_countTrials_0 33 rfl) (cI _ my_X11_at lm_X9_24 (by decide)) st_X11_at rfl (fun u hu => sX11_at _ _ _ _ _ _ hu) (sum_le (sum_I (sum_R sum_nil)) (by decide)) rfl (fun v7 => ?_)
                refine j_iconst (q := 55) (v := (3 : Int32)) hx (dc kX9_countTrials_0 34 rfl) (by decide) rfl ?_
                refine j_icmp_neS (q := 58) (tgt := 67) hx (dc kX9_countTrials_0 35 rfl) (by decide) rfl ?_ ?_
                · refine j_iconst (q := 68) (v := (0 : Int32)) hx (dc kX9_countTrials_0 41 rfl) (by decide) rfl ?_
                  exact j_sub [1, 2, 3] rfl (hb68 x0 x1 x2 v5 v3 (0 : Int32) h)
                · refine j_aload_n (q := 59) hx (dc kX9_countTrials_0 36 rfl) rfl 1 rfl rfl ?_
                  refine j_iload_n (q := 60) hx (dc kX9_countTrials_0 37 rfl) rfl 2 rfl rfl ?_
                  refine j_iload_n (q := 61) hx (dc kX9_countTrials_0 38 rfl) rfl 0 rfl rfl ?_
                  refine w_cVIR (q := 64) (As := [.int x1, .int v3]) (st := [.int v3, vR x.2.2.2 v5]) hx (dc kX9_countTrials_0 39 rfl) cf9 (by decide) rfl (cI _ my_X9_fewestTrials lm_X9_43 (by decide)) vs_X9_fewestTrials rfl (fun u hu => sX9_fewestTrials _ _ _ _ _ _ _ hu) (fun e => ite_ne (by unfold mX9_fewestTrials at e; exact e)) (sum_le (sum_I (sum_R sum_nil)) (by decide)) rfl (fun v11 => ?_)
                  refine j_goto (q := 68) hx (dc kX9_countTrials_0 40 rfl) (by decide) ?_
                  exact j_sub [1, 2, 3] rfl (hb68 x0 x1 x2 v5 v3 v11 h)
        exact j_loop (S := (Int32 × Hp)) (lvf := fun s => [(0, vR x.2.2.2 x0), (1, .int x1), (2, .int s.1)]) (hpf := fun s => s.2) (f := (fun s : (Int32 × Hp) => mX9_countTrials_l11f x0 x1 s.1 s.2)) (fun s => hB s.1 s.2) (x2, h)
      unfold mX9_countTrials_l5f
      refine j_iload_n (q := 6) hx (dc kX9_countTrials_0 3 rfl) rfl 1 rfl rfl ?_
      refine j_if_lt (q := 9) (tgt := 83) hx (dc kX9_countTrials_0 4 rfl) (by decide) Iff.rfl rfl ?_ ?_
      · refine j_exit ?_
        exact r_vW hx hR (dc kX9_countTrials_0 47 rfl)
      · refine j_iload_n (q := 10) hx (dc kX9_countTrials_0 5 rfl) rfl 1 rfl rfl ?_
        refine j_istore_n (q := 11) (i := 2) (l2 := [(0, vR x.2.2.2 x0), (1, .int x1)]) hx (dc kX9_countTrials_0 6 rfl) rfl (hn 2 (by decide)) [0, 1] rfl ⟨⟨show (0 : Nat) ≠ 2 by decide, Or.inl (show (0 : Nat) + 1 ≠ 2 by decide)⟩, ⟨⟨show (1 : Nat) ≠ 2 by decide, Or.inr rfl⟩, trivial⟩⟩ rfl ?_
        exact j_sub [1, 2, 0] rfl (hb11 x0 x1 x1 h)
    exact j_loop (S := (Int32 × Hp)) (lvf := fun s => [(0, vR x.2.2.2 x0), (1, .int s.1)]) (hpf := fun s => s.2) (f := (fun s : (Int32 × Hp) => mX9_countTrials_l5f x0 s.1 s.2)) (fun s => hB s.1 s.2) (x1, h)
  unfold mX9_countTrials
  refine J.ckd fun hk0 => ?_
  refine j_aload_n (q := 1) hx (dc kX9_countTrials_0 0 rfl) rfl 0 rfl rfl ?_
  refine w_gI (q := 4) hx (dc kX9_countTrials_0 1 rfl) ff_X9_4 lk_X9_36 rfl (fun v1 => ?_)
  refine j_istore_n (q := 5) (i := 1) (l2 := [(0, vR x.2.2.2 x0)]) hx (dc kX9_countTrials_0 2 rfl) rfl (hn 1 (by decide)) [0] rfl ⟨⟨show (0 : Nat) ≠ 1 by decide, Or.inr (vR_cat _ _)⟩, trivial⟩ rfl ?_
  exact j_sub [1, 0] rfl (hb5 x0 v1 h)

set_option maxHeartbeats 4000000 in
set_option maxRecDepth 100000 in
theorem sX9_firstTrial (l : Launch) (w : Wd) (x0 : Nat) (h : Hp) (u : Int32) (hK : mX9_firstTrial x0 h = some u) : M1 l w mi_X9_firstTrial 3 [vR w x0] h h (some (.int u)) := by
  refine M1.of (own := RX9) (T := fun _ r => r = u) hK (by decide +kernel) rfl (by first | (simp only [lg_lenR, lg_lenI, lg_lenL, lg_len0]; decide) | decide) (fun x hx hnl hhf hl hw hret hnm hQ h0e => ⟨?_, rfl⟩)
  subst hw
  subst hl
  have hR : Rt x h h (some (.int u)) ((some .int)) := ⟨h0e, hhf, hret, hQ⟩
  have hn : ∀ i, i < 2 → i < x.2.2.1.1.1 := fun i hi => by rw [hnl]; exact hi
  have e0 : lv_args 0 [vR x.2.2.2 x0] = [(0, vR x.2.2.2 x0)] := by simp only [lv_argsR, lv_argsI, lv_argsL, lv_args0]
  rw [e0]
  have hb2 : ∀ (x0 : Nat) (x1 : Int32), J x 2 [(0, vR x.2.2.2 x0), (1, .int x1)] [] h (mX9_firstTrial_l2 x0 x1 h) (fun r => r = u) := by
    intro x0 x1
    have hB : ∀ (x1 : Int32), J x 2 [(0, vR x.2.2.2 x0), (1, .int x1)] [] h (mX9_firstTrial_l2f x0 h x1) (TL (S := Int32) x 2 (fun s => [(0, vR x.2.2.2 x0), (1, .int s)]) [] (fun s => h) (fun r => r = u)) := by
      intro x1
      have hb34 : ∀ (x0 : Nat) (x1 : Int32), J x 34 [(0, vR x.2.2.2 x0), (1, .int x1)] [] h (mX9_firstTrial_b34 x0 x1 h) (TL (S := Int32) x 2 (fun s => [(0, vR x.2.2.2 x0), (1, .int s)]) [] (fun s => h) (fun r => r = u)) := by
        intro x0 x1
        unfold mX9_firstTrial_b34
        refine j_iinc (q := 37) (l2 := [(0, vR x.2.2.2 x0)]) hx (dc kX9_firstTrial_0 19 rfl) 1 rfl (v := (1 : Int32)) (by decide) (hn 1 (by decide)) [0] rfl ⟨⟨show (0 : Nat) ≠ 1 by decide, Or.inr (vR_cat _ _)⟩, trivial⟩ rfl ?_
        refine j_goto (q := 2) hx (dc kX9_firstTrial_0 20 rfl) (by decide) ?_
        exact j_back [1, 0] (x1 + (1 : Int32)) rfl rfl
      unfold mX9_firstTrial_l2f
      refine j_iload_n (q := 3) hx (dc kX9_firstTrial_0 2 rfl) rfl 1 rfl rfl ?_
      refine j_bipush (q := 5) (v := (8 : Int32)) hx (dc kX9_firstTrial_0 3 rfl) (by decide) rfl ?_
      refine j_icmp_geS (q := 8) (tgt := 40) hx (dc kX9_firstTrial_0 4 rfl) (by decide) rfl ?_ ?_
      · refine j_exit ?_
        refine j_iconst (q := 41) (v := (-1 : Int32)) hx (dc kX9_firstTrial_0 21 rfl) (by decide) rfl ?_
        exact r_iR hx hR (dc kX9_firstTrial_0 22 rfl)
      · refine j_aload_n (q := 9) hx (dc kX9_firstTrial_0 5 rfl) rfl 0 rfl rfl ?_
        refine w_gI (q := 12) hx (dc kX9_firstTrial_0 6 rfl) ff_X9_4 lk_X9_36 rfl (fun v1 => ?_)
        refine j_iload_n (q := 13) hx (dc kX9_firstTrial_0 7 rfl) rfl 1 rfl rfl ?_
        refine w_cSIR (q := 16) (As := [.int v1, .int x1]) (st := []) hx (dc kX9_firstTrial_0 8 rfl) (cI _ my_X11_has lm_X9_46 (by decide)) st_X11_has rfl (fun u hu => sX11_has _ _ _ _ _ _ hu) (Nat.zero_le _) rfl (fun v2 => ?_)
        refine j_if_eq (q := 19) (tgt := 34) hx (dc kX9_firstTrial_0 9 rfl) (by decide) Iff.rfl rfl ?_ ?_
        · exact hb34 x0 x1
        · refine j_aload_n (q := 20) hx (dc kX9_firstTrial_0 10 rfl) rfl 0 rfl rfl ?_
          refine j_iload_n (q := 21) hx (dc kX9_firstTrial_0 11 rfl) rfl 1 rfl rfl ?_
          refine j_iconst (q := 22) (v := (0 : Int32)) hx (dc kX9_firstTrial_0 12 rfl) (by decide) rfl ?_
          refine w_cVIR (q := 25) (As := [.int x1, .int (0 : Int32)]) (st := []) hx (dc kX9_firstTrial_0 13 rfl) cf9 (by decide) rfl (cI _ my_X9_trialsBy lm_X9_50 (by decide)) vs_X9_trialsBy rfl (fun u hu => sX9_trialsBy _ _ _ _ _ _ _ hu) (fun e => ite_ne (by unfold mX9_trialsBy at e; exact e)) (Nat.zero_le _) rfl (fun v4 => ?_)
          refine j_aload_n (q := 26) hx (dc kX9_firstTrial_0 14 rfl) rfl 0 rfl rfl ?_
          refine w_cVIR (q := 29) (As := []) (st := [.int v4]) hx (dc kX9_firstTrial_0 15 rfl) cf9 (by decide) rfl (cI _ my_X9_value lm_X9_61 (by decide)) vs_X9_value rfl (fun u hu => sX9_value _ _ _ _ _ hu) (fun e => ite_ne (by unfold mX9_value at e; exact e)) (sum_le (sum_I sum_nil) (by decide)) rfl (fun v6 => ?_)
          refine j_icmp_neS (q := 32) (tgt := 34) hx (dc kX9_firstTrial_0 16 rfl) (by decide) rfl ?_ ?_
          · exact hb34 x0 x1
          · refine j_exit ?_
            refine j_iload_n (q := 33) hx (dc kX9_firstTrial_0 17 rfl) rfl 1 rfl rfl ?_
            exact r_iR hx hR (dc kX9_firstTrial_0 18 rfl)
    exact j_loop (S := Int32) (lvf := fun s => [(0, vR x.2.2.2 x0), (1, .int s)]) (hpf := fun s => h) (f := (fun s : Int32 => mX9_firstTrial_l2f x0 h s)) (fun s => hB s) x1
  unfold mX9_firstTrial
  refine J.ckd fun hk0 => ?_
  refine j_iconst (q := 1) (v := (0 : Int32)) hx (dc kX9_firstTrial_0 0 rfl) (by decide) rfl ?_
  refine j_istore_n (q := 2) (i := 1) (l2 := [(0, vR x.2.2.2 x0)]) hx (dc kX9_firstTrial_0 1 rfl) rfl (hn 1 (by decide)) [0] rfl ⟨⟨show (0 : Nat) ≠ 1 by decide, Or.inr (vR_cat _ _)⟩, trivial⟩ rfl ?_
  exact j_sub [1, 0] rfl (hb2 x0 (0 : Int32))

set_option maxHeartbeats 4000000 in
set_option maxRecDepth 100000 in
theorem sX9_leadsTo (l : Launch) (w : Wd) (x0 : Nat) (x1 : Int32) (x2 : Int32) (h : Hp) (u : Int32) (hK : mX9_leadsTo x0 x1 x2 h = some u) : M1 l w mi_X9_leadsTo 2 [vR w x0, .int x1, .int x2] h h (some (.int u)) := by
  refine M1.of (own := RX9) (T := fun _ r => r = u) hK (by decide +kernel) rfl (by first | (simp only [lg_lenR, lg_lenI, lg_lenL, lg_len0]; decide) | decide) (fun x hx hnl hhf hl hw hret hnm hQ h0e => ⟨?_, rfl⟩)
  subst hw
  subst hl
  have hR : Rt x h h (some (.int u)) ((some .boolean)) := ⟨h0e, hhf, hret, hQ⟩
  have hn : ∀ i, i < 3 → i < x.2.2.1.1.1 := fun i hi => by rw [hnl]; exact hi
  have e0 : lv_args 0 [vR x.2.2.2 x0, .int x1, .int x2] = [(0, vR x.2.2.2 x0), (1, .int x1), (2, .int x2)] := by simp only [lv_argsR, lv_argsI, lv_argsL, lv_args0]
  rw [e0]
  unfold mX9_leadsTo
  refine J.ckd fun hk0 => ?_
  refine j_aload_n (q := 1) hx (dc kX9_leadsTo_0 0 rfl) rfl 0 rfl rfl ?_
  refine w_gR (q := 4) hx (dc kX9_leadsTo_0 1 rfl) ff_X9_2 lk_X9_18 rfl (fun v1 => ?_)
  refine j_iload_n (q := 5) hx (dc kX9_leadsTo_0 2 rfl) rfl 1 rfl rfl ?_
  refine w_cSIR (q := 8) (As := [vR x.2.2.2 v1, .int x1]) (st := []) hx (dc kX9_leadsTo_0 3 rfl) (cI _ my_X11_at lm_X9_24 (by decide)) st_X11_at rfl (fun u hu => sX11_at _ _ _ _ _ _ hu) (Nat.zero_le _) rfl (fun v2 => ?_)
  refine j_if_eq (q := 11) (tgt := 27) hx (dc kX9_leadsTo_0 4 rfl) (by decide) Iff.rfl rfl ?_ ?_
  · refine j_iconst (q := 28) (v := (0 : Int32)) hx (dc kX9_leadsTo_0 13 rfl) (by decide) rfl ?_
    exact r_cR hx (Or.inl rfl) hR (dc kX9_leadsTo_0 14 rfl)
  · refine j_aload_n (q := 12) hx (dc kX9_leadsTo_0 5 rfl) rfl 0 rfl rfl ?_
    refine w_gR (q := 15) hx (dc kX9_leadsTo_0 6 rfl) ff_X9_3 lk_X9_21 rfl (fun v4 => ?_)
    refine j_iload_n (q := 16) hx (dc kX9_leadsTo_0 7 rfl) rfl 1 rfl rfl ?_
    refine w_cSIR (q := 19) (As := [vR x.2.2.2 v4, .int x1]) (st := []) hx (dc kX9_leadsTo_0 8 rfl) (cI _ my_X11_at lm_X9_24 (by decide)) st_X11_at rfl (fun u hu => sX11_at _ _ _ _ _ _ hu) (Nat.zero_le _) rfl (fun v5 => ?_)
    refine j_iload_n (q := 20) hx (dc kX9_leadsTo_0 9 rfl) rfl 2 rfl rfl ?_
    refine j_icmp_neS (q := 23) (tgt := 27) hx (dc kX9_leadsTo_0 10 rfl) (by decide) rfl ?_ ?_
    · refine j_iconst (q := 28) (v := (0 : Int32)) hx (dc kX9_leadsTo_0 13 rfl) (by decide) rfl ?_
      exact r_cR hx (Or.inl rfl) hR (dc kX9_leadsTo_0 14 rfl)
    · refine j_iconst (q := 24) (v := (1 : Int32)) hx (dc kX9_leadsTo_0 11 rfl) (by decide) rfl ?_
      refine j_goto (q := 28) hx (dc kX9_leadsTo_0 12 rfl) (by decide) ?_
      exact r_cR hx (Or.inr rfl) hR (dc kX9_leadsTo_0 14 rfl)

set_option maxHeartbeats 4000000 in
set_option maxRecDepth 100000 in
theorem sX9_bestTurn (l : Launch) (w : Wd) (x0 : Nat) (x1 : Int32) (x2 : Int32) (x3 : Int32) (h : Hp) (u : Int32) (hK : mX9_bestTurn x0 x1 x2 x3 h = some u) : M1 l w mi_X9_bestTurn 3 [vR w x0, .int x1, .int x2, .int x3] h h (some (.int u)) := by
  refine M1.of (own := RX9) (T := fun _ r => r = u) hK (by decide +kernel) rfl (by first | (simp only [lg_lenR, lg_lenI, lg_lenL, lg_len0]; decide) | decide) (fun x hx hnl hhf hl hw hret hnm hQ h0e => ⟨?_, rfl⟩)
  subst hw
  subst hl
  have hR : Rt x h h (some (.int u)) ((some .int)) := ⟨h0e, hhf, hret, hQ⟩
  have hn : ∀ i, i < 6 → i < x.2.2.1.1.1 := fun i hi => by rw [hnl]; exact hi
  have e0 : lv_args 0 [vR x.2.2.2 x0, .int x1, .int x2, .int x3] = [(0, vR x.2.2.2 x0), (1, .int x1), (2, .int x2), (3, .int x3)] := by simp only [lv_argsR, lv_argsI, lv_argsL, lv_args0]
  rw [e0]
  have hb3 : ∀ (x0 : Nat) (x1 : Int32) (x2 : Int32) (x3 : Int32) (x4 : Int32), J x 3 [(0, vR x.2.2.2 x0), (1, .int x1), (2, .int x2), (3, .int x3), (4, .int x4)] [] h (mX9_bestTurn_l3 x0 x1 x2 x3 x4 h) (fun r => r = u) := by
    intro x0 x1 x2 x3 x4
    have hB : ∀ (x4 : Int32), J x 3 [(0, vR x.2.2.2 x0), (1, .int x1), (2, .int x2), (3, .int x3), (4, .int x4)] [] h (mX9_bestTurn_l3f x0 x1 x2 x3 h x4) (TL (S := Int32) x 3 (fun s => [(0, vR x.2.2.2 x0), (1, .int x1), (2, .int x2), (3, .int x3), (4, .int s)]) [] (fun s => h) (fun r => r = u)) := by
      intro x4
      have hb77 : ∀ (x0 : Nat) (x1 : Int32) (x2 : Int32) (x3 : Int32) (x4 : Int32), J x 77 [(0, vR x.2.2.2 x0), (1, .int x1), (2, .int x2), (3, .int x3), (4, .int x4)] [] h (mX9_bestTurn_b77 x0 x1 x2 x3 x4 h) (TL (S := Int32) x 3 (fun s => [(0, vR x.2.2.2 x0), (1, .int x1), (2, .int x2), (3, .int x3), (4, .int s)]) [] (fun s => h) (fun r => r = u)) := by
        intro x0 x1 x2 x3 x4
        unfold mX9_bestTurn_b77
        refine j_iinc (q := 80) (l2 := [(0, vR x.2.2.2 x0), (1, .int x1), (2, .int x2), (3, .int x3)]) hx (dc kX9_bestTurn_0 47 rfl) 4 rfl (v := (1 : Int32)) (by decide) (hn 4 (by decide)) [0, 1, 2, 3] rfl ⟨⟨show (0 : Nat) ≠ 4 by decide, Or.inl (show (0 : Nat) + 1 ≠ 4 by decide)⟩, ⟨⟨show (1 : Nat) ≠ 4 by decide, Or.inl (show (1 : Nat) + 1 ≠ 4 by decide)⟩, ⟨⟨show (2 : Nat) ≠ 4 by decide, Or.inl (show (2 : Nat) + 1 ≠ 4 by decide)⟩, ⟨⟨show (3 : Nat) ≠ 4 by decide, Or.inr rfl⟩, trivial⟩⟩⟩⟩ rfl ?_
        refine j_goto (q := 3) hx (dc kX9_bestTurn_0 48 rfl) (by decide) ?_
        exact j_back [1, 2, 3, 4, 0] (x4 + (1 : Int32)) rfl rfl
      unfold mX9_bestTurn_l3f
      refine j_iload (q := 5) hx (dc kX9_bestTurn_0 2 rfl) 4 rfl rfl ?_
      refine j_bipush (q := 7) (v := (8 : Int32)) hx (dc kX9_bestTurn_0 3 rfl) (by decide) rfl ?_
      refine j_icmp_geS (q := 10) (tgt := 83) hx (dc kX9_bestTurn_0 4 rfl) (by decide) rfl ?_ ?_
      · refine j_exit ?_
        refine j_iconst (q := 84) (v := (-1 : Int32)) hx (dc kX9_bestTurn_0 49 rfl) (by decide) rfl ?_
        exact r_iR hx hR (dc kX9_bestTurn_0 50 rfl)
      · refine j_aload_n (q := 11) hx (dc kX9_bestTurn_0 5 rfl) rfl 0 rfl rfl ?_
        refine w_gI (q := 14) hx (dc kX9_bestTurn_0 6 rfl) ff_X9_4 lk_X9_36 rfl (fun v1 => ?_)
        refine j_iload_n (q := 15) hx (dc kX9_bestTurn_0 7 rfl) rfl 1 rfl rfl ?_
        refine j_iconst (q := 16) (v := (-1 : Int32)) hx (dc kX9_bestTurn_0 8 rfl) (by decide) rfl ?_
        refine j_ixor (q := 17) hx (dc kX9_bestTurn_0 9 rfl) rfl ?_
        refine j_iand (q := 18) hx (dc kX9_bestTurn_0 10 rfl) rfl ?_
        refine j_iload (q := 20) hx (dc kX9_bestTurn_0 11 rfl) 4 rfl rfl ?_
        refine w_cSIR (q := 23) (As := [.int (v1 &&& (x1 ^^^ (-1 : Int32))), .int x4]) (st := []) hx (dc kX9_bestTurn_0 12 rfl) (cI _ my_X11_has lm_X9_46 (by decide)) st_X11_has rfl (fun u hu => sX11_has _ _ _ _ _ _ hu) (Nat.zero_le _) rfl (fun v2 => ?_)
        refine j_if_eq (q := 26) (tgt := 77) hx (dc kX9_bestTurn_0 13 rfl) (by decide) Iff.rfl rfl ?_ ?_
        · exact hb77 x0 x1 x2 x3 x4
        · refine j_aload_n (q := 27) hx (dc kX9_bestTurn_0 14 rfl) rfl 0 rfl rfl ?_
          refine w_gR (q := 30) hx (dc kX9_bestTurn_0 15 rfl) ff_X9_0 lk_X9_9 rfl (fun v4 => ?_)
          refine j_iconst (q := 31) (v := (1 : Int32)) hx (dc kX9_bestTurn_0 16 rfl) (by decide) rfl ?_
          refine j_iload (q := 33) hx (dc kX9_bestTurn_0 17 rfl) 4 rfl rfl ?_
          refine j_ishl (q := 34) hx (dc kX9_bestTurn_0 18 rfl) rfl ?_
          refine w_cSIR (q := 37) (As := [vR x.2.2.2 v4, .int ((1 : Int32) <<< (x4 &&& 31))]) (st := []) hx (dc kX9_bestTurn_0 19 rfl) (cI _ my_X11_at lm_X9_24 (by decide)) st_X11_at rfl (fun u hu => sX11_at _ _ _ _ _ _ hu) (Nat.zero_le _) rfl (fun v5 => ?_)
          refine j_istore (q := 39) (i := 5) (l2 := [(0, vR x.2.2.2 x0), (1, .int x1), (2, .int x2), (3, .int x3), (4, .int x4)]) hx (dc kX9_bestTurn_0 20 rfl) (hn 5 (by decide)) [0, 1, 2, 3, 4] rfl ⟨⟨show (0 : Nat) ≠ 5 by decide, Or.inl (show (0 : Nat) + 1 ≠ 5 by decide)⟩, ⟨⟨show (1 : Nat) ≠ 5 by decide, Or.inl (show (1 : Nat) + 1 ≠ 5 by decide)⟩, ⟨⟨show (2 : Nat) ≠ 5 by decide, Or.inl (show (2 : Nat) + 1 ≠ 5 by decide)⟩, ⟨⟨show (3 : Nat) ≠ 5 by decide, Or.inl (show (3 : Nat) + 1 ≠ 5 by decide)⟩, ⟨⟨show (4 : Nat) ≠ 5 by decide, Or.inr rfl⟩, trivial⟩⟩⟩⟩⟩ rfl ?_
          refine j_aload_n (q := 40) hx (dc kX9_bestTurn_0 21 rfl) rfl 1 rfl rfl ?_
          refine j_iload_n (q := 41) hx (dc kX9_bestTurn_0 22 rfl) rfl 3 rfl rfl ?_
          refine j_iload (q := 43) hx (dc kX9_bestTurn_0 23 rfl) 0 rfl rfl ?_
          refine j_iadd (q := 44) hx (dc kX9_bestTurn_0 24 rfl) rfl ?_
          refine j_iload_n (q := 45) hx (dc kX9_bestTurn_0 25 rfl) rfl 4 rfl rfl ?_
          refine w_cVIR (q := 48) (As := [.int (x2 + v5), .int x3]) (st := []) hx (dc kX9_bestTurn_0 26 rfl) cf9 (by decide) rfl (cI _ my_X9_leadsTo lm_X9_78 (by decide)) vs_X9_leadsTo rfl (fun u hu => sX9_leadsTo _ _ _ _ _ _ _ hu) (fun e => ite_ne (by unfold mX9_leadsTo at e; exact e)) (Nat.zero_le _) rfl (fun v7 => ?_)
          refine j_if_eq (q := 51) (tgt := 56) hx (dc kX9_bestTurn_0 27 rfl) (by decide) Iff.rfl rfl ?_ ?_
          · refine j_aload_n (q := 57) hx (dc kX9_bestTurn_0 32 rfl) rfl 1 rfl rfl ?_
            refine j_iload_n (q := 58) hx (dc kX9_bestTurn_0 33 rfl) rfl 3 rfl rfl ?_
            refine j_iconst (q := 59) (v := (2 : Int32)) hx (dc kX9_bestTurn_0 34 rfl) (by decide) rfl ?_
            refine j_iload (q := 61) hx (dc kX9_bestTurn_0 35 rfl) 0 rfl rfl ?_
            refine j_imul (q := 62) hx (dc kX9_bestTurn_0 36 rfl) rfl ?_
            refine j_iadd (q := 63) hx (dc kX9_bestTurn_0 37 rfl) rfl ?_
            refine j_iload_n (q := 64) hx (dc kX9_bestTurn_0 38 rfl) rfl 4 rfl rfl ?_
            refine w_cVIR (q := 67) (As := [.int (x2 + ((2 : Int32) * v5)), .int x3]) (st := []) hx (dc kX9_bestTurn_0 39 rfl) cf9 (by decide) rfl (cI _ my_X9_leadsTo lm_X9_78 (by decide)) vs_X9_leadsTo rfl (fun u hu => sX9_leadsTo _ _ _ _ _ _ _ hu) (fun e => ite_ne (by unfold mX9_leadsTo at e; exact e)) (Nat.zero_le _) rfl (fun v9 => ?_)
            refine j_if_eq (q := 70) (tgt := 77) hx (dc kX9_bestTurn_0 40 rfl) (by decide) Iff.rfl rfl ?_ ?_
            · exact j_sub [1, 2, 3, 4, 5] rfl (hb77 x0 x1 x2 x3 x4)
            · refine j_exit ?_
              refine j_iconst (q := 71) (v := (2 : Int32)) hx (dc kX9_bestTurn_0 41 rfl) (by decide) rfl ?_
              refine j_iload (q := 73) hx (dc kX9_bestTurn_0 42 rfl) 5 rfl rfl ?_
              refine j_imul (q := 74) hx (dc kX9_bestTurn_0 43 rfl) rfl ?_
              refine j_iconst (q := 75) (v := (1 : Int32)) hx (dc kX9_bestTurn_0 44 rfl) (by decide) rfl ?_
              refine j_iadd (q := 76) hx (dc kX9_bestTurn_0 45 rfl) rfl ?_
              exact r_iR hx hR (dc kX9_bestTurn_0 46 rfl)
          · refine j_exit ?_
            refine j_iconst (q := 52) (v := (2 : Int32)) hx (dc kX9_bestTurn_0 28 rfl) (by decide) rfl ?_
            refine j_iload (q := 54) hx (dc kX9_bestTurn_0 29 rfl) 5 rfl rfl ?_
            refine j_imul (q := 55) hx (dc kX9_bestTurn_0 30 rfl) rfl ?_
            exact r_iR hx hR (dc kX9_bestTurn_0 31 rfl)
    exact j_loop (S := Int32) (lvf := fun s => [(0, vR x.2.2.2 x0), (1, .int x1), (2, .int x2), (3, .int x3), (4, .int s)]) (hpf := fun s => h) (f := (fun s : Int32 => mX9_bestTurn_l3f x0 x1 x2 x3 h s)) (fun s => hB s) x4
  unfold mX9_bestTurn
  refine J.ckd fun hk0 => ?_
  refine j_iconst (q := 1) (v := (0 : Int32)) hx (dc kX9_bestTurn_0 0 rfl) (by decide) rfl ?_
  refine j_istore (q := 3) (i := 4) (l2 := [(0, vR x.2.2.2 x0), (1, .int x1), (2, .int x2), (3, .int x3)]) hx (dc kX9_bestTurn_0 1 rfl) (hn 4 (by decide)) [0, 1, 2, 3] rfl ⟨⟨show (0 : Nat) ≠ 4 by decide, Or.inl (show (0 : Nat) + 1 ≠ 4 by decide)⟩, ⟨⟨show (1 : Nat) ≠ 4 by decide, Or.inl (show (1 : Nat) + 1 ≠ 4 by decide)⟩, ⟨⟨show (2 : Nat) ≠ 4 by decide, Or.inl (show (2 : Nat) + 1 ≠ 4 by decide)⟩, ⟨⟨show (3 : Nat) ≠ 4 by decide, Or.inr rfl⟩, trivial⟩⟩⟩⟩ rfl ?_
  exact j_sub [1, 2, 3, 4, 0] rfl (hb3 x0 x1 x2 x3 (0 : Int32))

set_option maxHeartbeats 4000000 in
set_option maxRecDepth 100000 in
theorem sX9_winner (l : Launch) (w : Wd) (x0 : Nat) (x1 : Int32) (x2 : Int32) (x3 : Int32) (h : Hp) (u : Int32) (hK : mX9_winner x0 x1 x2 x3 h = some u) : M1 l w mi_X9_winner 4 [vR w x0, .int x1, .int x2, .int x3] h h (some (.int u)) := by
  refine M1.of (own := RX9) (T := fun _ r => r = u) hK (by decide +kernel) rfl (by first | (simp only [lg_lenR, lg_lenI, lg_lenL, lg_len0]; decide) | decide) (fun x hx hnl hhf hl hw hret hnm hQ h0e => ⟨?_, rfl⟩)
  subst hw
  subst hl
  have hR : Rt x h h (some (.int u)) ((some .int)) := ⟨h0e, hhf, hret, hQ⟩
  have hn : ∀ i, i < 5 → i < x.2.2.1.1.1 := fun i hi => by rw [hnl]; exact hi
  have e0 : lv_args 0 [vR x.2.2.2 x0, .int x1, .int x2, .int x3] = [(0, vR x.2.2.2 x0), (1, .int x1), (2, .int x2), (3, .int x3)] := by simp only [lv_argsR, lv_argsI, lv_argsL, lv_args0]
  rw [e0]
  unfold mX9_winner
  refine J.ckd fun hk0 => ?_
  refine j_iload_n (q := 1) hx (dc kX9_winner_0 0 rfl) rfl 1 rfl rfl ?_
  refine j_aload_n (q := 2) hx (dc kX9_winner_0 1 rfl) rfl 0 rfl rfl ?_
  refine w_gI (q := 5) hx (dc kX9_winner_0 2 rfl) ff_X9_4 lk_X9_36 rfl (fun v1 => ?_)
  refine j_icmp_neS (q := 8) (tgt := 26) hx (dc kX9_winner_0 3 rfl) (by decide) rfl ?_ ?_
  · refine j_iconst (q := 27) (v := (1 : Int32)) hx (dc kX9_winner_0 14 rfl) (by decide) rfl ?_
    refine j_iload_n (q := 28) hx (dc kX9_winner_0 15 rfl) rfl 3 rfl rfl ?_
    refine j_isub (q := 29) hx (dc kX9_winner_0 16 rfl) rfl ?_
    refine j_istore (q := 31) (i := 4) (l2 := [(0, vR x.2.2.2 x0), (1, .int x1), (2, .int x2)]) hx (dc kX9_winner_0 17 rfl) (hn 4 (by decide)) [0, 1, 2] rfl ⟨⟨show (0 : Nat) ≠ 4 by decide, Or.inl (show (0 : Nat) + 1 ≠ 4 by decide)⟩, ⟨⟨show (1 : Nat) ≠ 4 by decide, Or.inl (show (1 : Nat) + 1 ≠ 4 by decide)⟩, ⟨⟨show (2 : Nat) ≠ 4 by decide, Or.inl (show (2 : Nat) + 1 ≠ 4 by decide)⟩, trivial⟩⟩⟩ rfl ?_
    refine j_aload_n (q := 32) hx (dc kX9_winner_0 18 rfl) rfl 1 rfl rfl ?_
    refine j_iload_n (q := 33) hx (dc kX9_winner_0 19 rfl) rfl 2 rfl rfl ?_
    refine j_iload_n (q := 34) hx (dc kX9_winner_0 20 rfl) rfl 3 rfl rfl ?_
    refine j_iload (q := 36) hx (dc kX9_winner_0 21 rfl) 0 rfl rfl ?_
    refine w_cVIR (q := 39) (As := [.int x1, .int x2, .int ((1 : Int32) - x3)]) (st := []) hx (dc kX9_winner_0 22 rfl) cf9 (by decide) rfl (cI _ my_X9_bestTurn lm_X9_75 (by decide)) vs_X9_bestTurn rfl (fun u hu => sX9_bestTurn _ _ _ _ _ _ _ _ hu) (fun e => ite_ne (by unfold mX9_bestTurn at e; exact e)) (Nat.zero_le _) rfl (fun v2 => ?_)
    refine j_if_lt (q := 42) (tgt := 47) hx (dc kX9_winner_0 23 rfl) (by decide) Iff.rfl rfl ?_ ?_
    · refine j_iconst (q := 48) (v := (1 : Int32)) hx (dc kX9_winner_0 26 rfl) (by decide) rfl ?_
      refine j_iload (q := 50) hx (dc kX9_winner_0 27 rfl) 0 rfl rfl ?_
      refine j_isub (q := 51) hx (dc kX9_winner_0 28 rfl) rfl ?_
      exact r_iR hx hR (dc kX9_winner_0 29 rfl)
    · refine j_iload (q := 44) hx (dc kX9_winner_0 24 rfl) 0 rfl rfl ?_
      refine j_goto (q := 51) hx (dc kX9_winner_0 25 rfl) (by decide) ?_
      exact r_iR hx hR (dc kX9_winner_0 29 rfl)
  · refine j_aload_n (q := 9) hx (dc kX9_winner_0 4 rfl) rfl 0 rfl rfl ?_
    refine w_gR (q := 12) hx (dc kX9_winner_0 5 rfl) ff_X9_2 lk_X9_18 rfl (fun v4 => ?_)
    refine j_iload_n (q := 13) hx (dc kX9_winner_0 6 rfl) rfl 2 rfl rfl ?_
    refine w_cSIR (q := 16) (As := [vR x.2.2.2 v4, .int x2]) (st := []) hx (dc kX9_winner_0 7 rfl) (cI _ my_X11_at lm_X9_24 (by decide)) st_X11_at rfl (fun u hu => sX11_at _ _ _ _ _ _ hu) (Nat.zero_le _) rfl (fun v5 => ?_)
    refine j_iconst (q := 17) (v := (1 : Int32)) hx (dc kX9_winner_0 8 rfl) (by decide) rfl ?_
    refine j_icmp_neS (q := 20) (tgt := 24) hx (dc kX9_winner_0 9 rfl) (by decide) rfl ?_ ?_
    · refine j_iconst (q := 25) (v := (0 : Int32)) hx (dc kX9_winner_0 12 rfl) (by decide) rfl ?_
      exact r_iR hx hR (dc kX9_winner_0 13 rfl)
    · refine j_iconst (q := 21) (v := (1 : Int32)) hx (dc kX9_winner_0 10 rfl) (by decide) rfl ?_
      refine j_goto (q := 25) hx (dc kX9_winner_0 11 rfl) (by decide) ?_
      exact r_iR hx hR (dc kX9_winner_0 13 rfl)

set_option maxHeartbeats 4000000 in
set_option maxRecDepth 100000 in
theorem sX9_playOut (l : Launch) (w : Wd) (x0 : Nat) (x1 : Int32) (h : Hp) (u : Hp) (hK : mX9_playOut x0 x1 h = some u) : M1 l w mi_X9_playOut 5 [vR w x0, .int x1] h u (none) := by
  refine M1.of (own := RX9) (T := fun _ r => r = u) hK (by decide +kernel) rfl (by first | (simp only [lg_lenR, lg_lenI, lg_lenL, lg_len0]; decide) | decide) (fun x hx hnl hhf hl hw hret hnm hQ h0e => ⟨?_, rfl⟩)
  subst hw
  subst hl
  have hR : Rt x h u (none) (none) := ⟨h0e, hhf, hret, hQ⟩
  have hn : ∀ i, i < 6 → i < x.2.2.1.1.1 := fun i hi => by rw [hnl]; exact hi
  have e0 : lv_args 0 [vR x.2.2.2 x0, .int x1] = [(0, vR x.2.2.2 x0), (1, .int x1)] := by simp only [lv_argsR, lv_argsI, lv_argsL, lv_args0]
  rw [e0]
  have hb5 : ∀ (x0 : Nat) (x1 : Int32) (x2 : Int32) (h : Hp), J x 5 [(0, vR x.2.2.2 x0), (1, .int x1), (2, .int x2)] [] h (mX9_playOut_l5 x0 x1 x2 h) (fun r => r = u) := by
    intro x0 x1 x2 h
    have hB : ∀ (x2 : Int32) (h : Hp), J x 5 [(0, vR x.2.2.2 x0), (1, .int x1), (2, .int x2)] [] h (mX9_playOut_l5f x0 x1 x2 h) (TL (S := (Int32 × Hp)) x 5 (fun s => [(0, vR x.2.2.2 x0), (1, .int x1), (2, .int s.1)]) [] (fun s => s.2) (fun r => r = u)) := by
      intro x2 h
      have hb78 : ∀ (x0 : Nat) (x1 : Int32) (x2 : Int32) (h : Hp), J x 78 [(0, vR x.2.2.2 x0), (1, .int x1), (2, .int x2)] [] h (mX9_playOut_b78 x0 x1 x2 h) (TL (S := (Int32 × Hp)) x 5 (fun s => [(0, vR x.2.2.2 x0), (1, .int x1), (2, .int s.1)]) [] (fun s => s.2) (fun r => r = u)) := by
        intro x0 x1 x2 h
        unfold mX9_playOut_b78
        refine j_iinc (q := 81) (l2 := [(0, vR x.2.2.2 x0), (1, .int x1)]) hx (dc kX9_playOut_0 45 rfl) 2 rfl (v := (-1 : Int32)) (by decide) (hn 2 (by decide)) [0, 1] rfl ⟨⟨show (0 : Nat) ≠ 2 by decide, Or.inl (show (0 : Nat) + 1 ≠ 2 by decide)⟩, ⟨⟨show (1 : Nat) ≠ 2 by decide, Or.inr rfl⟩, trivial⟩⟩ rfl ?_
        refine j_goto (q := 5) hx (dc kX9_playOut_0 46 rfl) (by decide) ?_
        exact j_back [1, 2, 0] ((x2 + (-1 : Int32)), h) rfl rfl
      have hb21 : ∀ (x0 : Nat) (x1 : Int32) (x2 : Int32) (x3 : Int32) (x4 : Int32) (h : Hp), J x 21 [(0, vR x.2.2.2 x0), (1, .int x1), (2, .int x2), (3, .int x3), (4, .int x4)] [] h (mX9_playOut_l21 x0 x1 x2 x3 x4 h) (TL (S := (Int32 × Hp)) x 5 (fun s => [(0, vR x.2.2.2 x0), (1, .int x1), (2, .int s.1)]) [] (fun s => s.2) (fun r => r = u)) := by
        intro x0 x1 x2 x3 x4 h
        have hB : ∀ (x4 : Int32) (h : Hp), J x 21 [(0, vR x.2.2.2 x0), (1, .int x1), (2, .int x2), (3, .int x3), (4, .int x4)] [] h (mX9_playOut_l21f x0 x1 x2 x3 x4 h) (TL (S := (Int32 × Hp)) x 21 (fun s => [(0, vR x.2.2.2 x0), (1, .int x1), (2, .int x2), (3, .int x3), (4, .int s.1)]) [] (fun s => s.2) (TL (S := (Int32 × Hp)) x 5 (fun s => [(0, vR x.2.2.2 x0), (1, .int x1), (2, .int s.1)]) [] (fun s => s.2) (fun r => r = u))) := by
          intro x4 h
          have hb72 : ∀ (x0 : Nat) (x1 : Int32) (x2 : Int32) (x3 : Int32) (x4 : Int32) (h : Hp), J x 72 [(0, vR x.2.2.2 x0), (1, .int x1), (2, .int x2), (3, .int x3), (4, .int x4)] [] h (mX9_playOut_b72 x0 x1 x2 x3 x4 h) (TL (S := (Int32 × Hp)) x 21 (fun s => [(0, vR x.2.2.2 x0), (1, .int x1), (2, .int x2), (3, .int x3), (4, .int s.1)]) [] (fun s => s.2) (TL (S := (Int32 × Hp)) x 5 (fun s => [(0, vR x.2.2.2 x0), (1, .int x1), (2, .int s.1)]) [] (fun s => s.2) (fun r => r = u))) := by
            intro x0 x1 x2 x3 x4 h
            unfold mX9_playOut_b72
            refine j_iinc (q := 75) (l2 := [(0, vR x.2.2.2 x0), (1, .int x1), (2, .int x2), (3, .int x3)]) hx (dc kX9_playOut_0 43 rfl) 4 rfl (v := (-1 : Int32)) (by decide) (hn 4 (by decide)) [0, 1, 2, 3] rfl ⟨⟨show (0 : Nat) ≠ 4 by decide, Or.inl (show (0 : Nat) + 1 ≠ 4 by decide)⟩, ⟨⟨show (1 : Nat) ≠ 4 by decide, Or.inl (show (1 : Nat) + 1 ≠ 4 by decide)⟩, ⟨⟨show (2 : Nat) ≠ 4 by decide, Or.inl (show (2 : Nat) + 1 ≠ 4 by decide)⟩, ⟨⟨show (3 : Nat) ≠ 4 by decide, Or.inr rfl⟩, trivial⟩⟩⟩⟩ rfl ?_
            refine j_goto (q := 21) hx (dc kX9_playOut_0 44 rfl) (by decide) ?_
            exact j_back [1, 2, 3, 4, 0] ((x4 + (-1 : Int32)), h) rfl rfl
          unfold mX9_playOut_l21f
          refine j_iload (q := 23) hx (dc kX9_playOut_0 14 rfl) 4 rfl rfl ?_
          refine j_if_lt (q := 26) (tgt := 78) hx (dc kX9_playOut_0 15 rfl) (by decide) Iff.rfl rfl ?_ ?_
          · refine j_exit ?_
            exact j_sub [0, 1, 2] rfl (hb78 x0 x1 x2 h)
          · refine j_iload_n (q := 27) hx (dc kX9_playOut_0 16 rfl) rfl 2 rfl rfl ?_
            refine j_aload_n (q := 28) hx (dc kX9_playOut_0 17 rfl) rfl 0 rfl rfl ?_
            refine w_gI (q := 31) hx (dc kX9_playOut_0 18 rfl) ff_X9_4 lk_X9_36 rfl (fun v4 => ?_)
            refine j_iconst (q := 32) (v := (-1 : Int32)) hx (dc kX9_playOut_0 19 rfl) (by decide) rfl ?_
            refine j_ixor (q := 33) hx (dc kX9_playOut_0 20 rfl) rfl ?_
            refine j_iand (q := 34) hx (dc kX9_playOut_0 21 rfl) rfl ?_
            refine j_if_neS (q := 37) (tgt := 78) hx (dc kX9_playOut_0 22 rfl) (by decide) rfl ?_ ?_
            · refine j_exit ?_
              exact j_sub [0, 1, 2] rfl (hb78 x0 x1 x2 h)
            · refine j_iload (q := 39) hx (dc kX9_playOut_0 23 rfl) 4 rfl rfl ?_
              refine j_iload_n (q := 40) hx (dc kX9_playOut_0 24 rfl) rfl 2 rfl rfl ?_
              refine j_iconst (q := 41) (v := (-1 : Int32)) hx (dc kX9_playOut_0 25 rfl) (by decide) rfl ?_
              refine j_ixor (q := 42) hx (dc kX9_playOut_0 26 rfl) rfl ?_
              refine j_iand (q := 43) hx (dc kX9_playOut_0 27 rfl) rfl ?_
              refine j_if_neS (q := 46) (tgt := 72) hx (dc kX9_playOut_0 28 rfl) (by decide) rfl ?_ ?_
              · exact hb72 x0 x1 x2 x3 x4 h
              · refine j_aload_n (q := 47) hx (dc kX9_playOut_0 29 rfl) rfl 0 rfl rfl ?_
                refine j_iload_n (q := 48) hx (dc kX9_playOut_0 30 rfl) rfl 2 rfl rfl ?_
                refine j_iload (q := 50) hx (dc kX9_playOut_0 31 rfl) 4 rfl rfl ?_
                refine w_cVIR (q := 53) (As := [.int x2, .int x4]) (st := []) hx (dc kX9_playOut_0 32 rfl) cf9 (by decide) rfl (cI _ my_X9_node lm_X9_32 (by decide)) vs_X9_node rfl (fun u hu => sX9_node _ _ _ _ _ _ _ hu) (fun e => ite_ne (by unfold mX9_node at e; exact e)) (Nat.zero_le _) rfl (fun v5 => ?_)
                refine j_istore (q := 55) (i := 5) (l2 := [(0, vR x.2.2.2 x0), (1, .int x1), (2, .int x2), (3, .int x3), (4, .int x4)]) hx (dc kX9_playOut_0 33 rfl) (hn 5 (by decide)) [0, 1, 2, 3, 4] rfl ⟨⟨show (0 : Nat) ≠ 5 by decide, Or.inl (show (0 : Nat) + 1 ≠ 5 by decide)⟩, ⟨⟨show (1 : Nat) ≠ 5 by decide, Or.inl (show (1 : Nat) + 1 ≠ 5 by decide)⟩, ⟨⟨show (2 : Nat) ≠ 5 by decide, Or.inl (show (2 : Nat) + 1 ≠ 5 by decide)⟩, ⟨⟨show (3 : Nat) ≠ 5 by decide, Or.inl (show (3 : Nat) + 1 ≠ 5 by decide)⟩, ⟨⟨show (4 : Nat) ≠ 5 by decide, Or.inr rfl⟩, trivial⟩⟩⟩⟩⟩ rfl ?_
                refine j_aload_n (q := 56) hx (dc kX9_playOut_0 34 rfl) rfl 1 rfl rfl ?_
                refine w_gR (q := 59) hx (dc kX9_playOut_0 35 rfl) ff_X9_3 lk_X9_21 rfl (fun v7 => ?_)
                refine j_iload (q := 61) hx (dc kX9_playOut_0 36 rfl) 0 rfl rfl ?_
                refine j_aload_n (q := 62) hx (dc kX9_playOut_0 37 rfl) rfl 1 rfl rfl ?_
                refine j_iload_n (q := 63) hx (dc kX9_playOut_0 38 rfl) rfl 3 rfl rfl ?_
                refine j_iload (q := 65) hx (dc kX9_playOut_0 39 rfl) 0 rfl rfl ?_
                refine j_iload_n (q := 66) hx (dc kX9_playOut_0 40 rfl) rfl 4 rfl rfl ?_
                refine w_cVIR (q := 69) (As := [.int x2, .int v5, .int x3]) (st := [.int v5, vR x.2.2.2 v7]) hx (dc kX9_playOut_0 41 rfl) cf9 (by decide) rfl (cI _ my_X9_winner lm_X9_71 (by decide)) vs_X9_winner rfl (fun u hu => sX9_winner _ _ _ _ _ _ _ _ hu) (fun e => ite_ne (by unfold mX9_winner at e; exact e)) (sum_le (sum_I (sum_R sum_nil)) (by decide)) rfl (fun v8 => ?_)
                refine w_cSVW (q := 72) (As := [vR x.2.2.2 v7, .int v5, .int v8]) (st := []) hx (dc kX9_playOut_0 42 rfl) (cI _ my_X11_put lm_X9_28 (by decide)) st_X11_put rfl (fun u hu => sX11_put _ _ _ _ _ _ _ hu) (Nat.zero_le _) rfl (fun h11 => ?_)
                exact j_sub [1, 2, 3, 4, 5] rfl (hb72 x0 x1 x2 x3 x4 h11)
        exact j_loop (S := (Int32 × Hp)) (lvf := fun s => [(0, vR x.2.2.2 x0), (1, .int x1), (2, .int x2), (3, .int x3), (4, .int s.1)]) (hpf := fun s => s.2) (f := (fun s : (Int32 × Hp) => mX9_playOut_l21f x0 x1 x2 x3 s.1 s.2)) (fun s => hB s.1 s.2) (x4, h)
      unfold mX9_playOut_l5f
      refine j_iload_n (q := 6) hx (dc kX9_playOut_0 3 rfl) rfl 2 rfl rfl ?_
      refine j_if_lt (q := 9) (tgt := 84) hx (dc kX9_playOut_0 4 rfl) (by decide) Iff.rfl rfl ?_ ?_
      · refine j_exit ?_
        exact r_vW hx hR (dc kX9_playOut_0 47 rfl)
      · refine j_iload_n (q := 10) hx (dc kX9_playOut_0 5 rfl) rfl 1 rfl rfl ?_
        refine j_iload_n (q := 11) hx (dc kX9_playOut_0 6 rfl) rfl 2 rfl rfl ?_
        refine w_cSIR (q := 14) (As := [.int x2]) (st := [.int x1]) hx (dc kX9_playOut_0 7 rfl) (cI _ my_J6_bitCount_0f7a4 lm_X9_65 (by decide)) st_J6_bitCount_0f7a4 rfl (fun u hu => sJ6_bitCount_0f7a4 _ _ _ _ _ hu) (sum_le (sum_I sum_nil) (by decide)) rfl (fun v2 => ?_)
        refine j_iadd (q := 15) hx (dc kX9_playOut_0 8 rfl) rfl ?_
        refine j_iconst (q := 16) (v := (1 : Int32)) hx (dc kX9_playOut_0 9 rfl) (by decide) rfl ?_
        refine j_iand (q := 17) hx (dc kX9_playOut_0 10 rfl) rfl ?_
        refine j_istore_n (q := 18) (i := 3) (l2 := [(0, vR x.2.2.2 x0), (1, .int x1), (2, .int x2)]) hx (dc kX9_playOut_0 11 rfl) rfl (hn 3 (by decide)) [0, 1, 2] rfl ⟨⟨show (0 : Nat) ≠ 3 by decide, Or.inl (show (0 : Nat) + 1 ≠ 3 by decide)⟩, ⟨⟨show (1 : Nat) ≠ 3 by decide, Or.inl (show (1 : Nat) + 1 ≠ 3 by decide)⟩, ⟨⟨show (2 : Nat) ≠ 3 by decide, Or.inr rfl⟩, trivial⟩⟩⟩ rfl ?_
        refine j_iload_n (q := 19) hx (dc kX9_playOut_0 12 rfl) rfl 3 rfl rfl ?_
        refine j_istore (q := 21) (i := 4) (l2 := [(3, .int ((x1 + v2) &&& (1 : Int32))), (0, vR x.2.2.2 x0), (1, .int x1), (2, .int x2)]) hx (dc kX9_playOut_0 13 rfl) (hn 4 (by decide)) [0, 1, 2, 3] rfl ⟨⟨show (3 : Nat) ≠ 4 by decide, Or.inr rfl⟩, ⟨⟨show (0 : Nat) ≠ 4 by decide, Or.inl (show (0 : Nat) + 1 ≠ 4 by decide)⟩, ⟨⟨show (1 : Nat) ≠ 4 by decide, Or.inl (show (1 : Nat) + 1 ≠ 4 by decide)⟩, ⟨⟨show (2 : Nat) ≠ 4 by decide, Or.inl (show (2 : Nat) + 1 ≠ 4 by decide)⟩, trivial⟩⟩⟩⟩ rfl ?_
        exact j_sub [2, 3, 4, 1, 0] rfl (hb21 x0 x1 x2 ((x1 + v2) &&& (1 : Int32)) x2 h)
    exact j_loop (S := (Int32 × Hp)) (lvf := fun s => [(0, vR x.2.2.2 x0), (1, .int x1), (2, .int s.1)]) (hpf := fun s => s.2) (f := (fun s : (Int32 × Hp) => mX9_playOut_l5f x0 x1 s.1 s.2)) (fun s => hB s.1 s.2) (x2, h)
  unfold mX9_playOut
  refine J.ckd fun hk0 => ?_
  refine j_aload_n (q := 1) hx (dc kX9_playOut_0 0 rfl) rfl 0 rfl rfl ?_
  refine w_gI (q := 4) hx (dc kX9_playOut_0 1 rfl) ff_X9_4 lk_X9_36 rfl (fun v1 => ?_)
  refine j_istore_n (q := 5) (i := 2) (l2 := [(0, vR x.2.2.2 x0), (1, .int x1)]) hx (dc kX9_playOut_0 2 rfl) rfl (hn 2 (by decide)) [0, 1] rfl ⟨⟨show (0 : Nat) ≠ 2 by decide, Or.inl (show (0 : Nat) + 1 ≠ 2 by decide)⟩, ⟨⟨show (1 : Nat) ≠ 2 by decide, Or.inr rfl⟩, trivial⟩⟩ rfl ?_
  exact j_sub [1, 2, 0] rfl (hb5 x0 x1 v1 h)

set_option maxHeartbeats 4000000 in
set_option maxRecDepth 100000 in
theorem sX9_winningTurn (l : Launch) (w : Wd) (x0 : Nat) (x1 : Int32) (h : Hp) (u : Int32) (hK : mX9_winningTurn x0 x1 h = some u) : M1 l w mi_X9_winningTurn 4 [vR w x0, .int x1] h h (some (.int u)) := by
  refine M1.of (own := RX9) (T := fun _ r => r = u) hK (by decide +kernel) rfl (by first | (simp only [lg_lenR, lg_lenI, lg_lenL, lg_len0]; decide) | decide) (fun x hx hnl hhf hl hw hret hnm hQ h0e => ⟨?_, rfl⟩)
  subst hw
  subst hl
  have hR : Rt x h h (some (.int u)) ((some .int)) := ⟨h0e, hhf, hret, hQ⟩
  have hn : ∀ i, i < 2 → i < x.2.2.1.1.1 := fun i hi => by rw [hnl]; exact hi
  have e0 : lv_args 0 [vR x.2.2.2 x0, .int x1] = [(0, vR x.2.2.2 x0), (1, .int x1)] := by simp only [lv_argsR, lv_argsI, lv_argsL, lv_args0]
  rw [e0]
  unfold mX9_winningTurn
  refine J.ckd fun hk0 => ?_
  refine j_aload_n (q := 1) hx (dc kX9_winningTurn_0 0 rfl) rfl 0 rfl rfl ?_
  refine j_iconst (q := 2) (v := (0 : Int32)) hx (dc kX9_winningTurn_0 1 rfl) (by decide) rfl ?_
  refine j_iconst (q := 3) (v := (0 : Int32)) hx (dc kX9_winningTurn_0 2 rfl) (by decide) rfl ?_
  refine j_iconst (q := 4) (v := (1 : Int32)) hx (dc kX9_winningTurn_0 3 rfl) (by decide) rfl ?_
  refine j_iload_n (q := 5) hx (dc kX9_winningTurn_0 4 rfl) rfl 1 rfl rfl ?_
  refine j_isub (q := 6) hx (dc kX9_winningTurn_0 5 rfl) rfl ?_
  refine w_cVIR (q := 9) (As := [.int (0 : Int32), .int (0 : Int32), .int ((1 : Int32) - x1)]) (st := []) hx (dc kX9_winningTurn_0 6 rfl) cf9 (by decide) rfl (cI _ my_X9_bestTurn lm_X9_75 (by decide)) vs_X9_bestTurn rfl (fun u hu => sX9_bestTurn _ _ _ _ _ _ _ _ hu) (fun e => ite_ne (by unfold mX9_bestTurn at e; exact e)) (Nat.zero_le _) rfl (fun v1 => ?_)
  exact r_iR hx hR (dc kX9_winningTurn_0 7 rfl)

set_option maxHeartbeats 4000000 in
set_option maxRecDepth 100000 in
theorem sX9_isProof (l : Launch) (w : Wd) (x0 : Nat) (x1 : Int32) (x2 : Int32) (x3 : Int32) (h : Hp) (u : Int32) (hK : mX9_isProof x0 x1 x2 x3 h = some u) : M1 l w mi_X9_isProof 3 [vR w x0, .int x1, .int x2, .int x3] h h (some (.int u)) := by
  refine M1.of (own := RX9) (T := fun _ r => r = u) hK (by decide +kernel) rfl (by first | (simp only [lg_lenR, lg_lenI, lg_lenL, lg_len0]; decide) | decide) (fun x hx hnl hhf hl hw hret hnm hQ h0e => ⟨?_, rfl⟩)
  subst hw
  subst hl
  have hR : Rt x h h (some (.int u)) ((some .boolean)) := ⟨h0e, hhf, hret, hQ⟩
  have hn : ∀ i, i < 7 → i < x.2.2.1.1.1 := fun i hi => by rw [hnl]; exact hi
  have e0 : lv_args 0 [vR x.2.2.2 x0, .int x1, .int x2, .int x3] = [(0, vR x.2.2.2 x0), (1, .int x1), (2, .int x2), (3, .int x3)] := by simp only [lv_argsR, lv_argsI, lv_argsL, lv_args0]
  rw [e0]
  have hb26 : ∀ (x0 : Nat) (x1 : Int32) (x2 : Int32) (x3 : Int32) (x4 : Int32) (x5 : Int32), J x 26 [(0, vR x.2.2.2 x0), (1, .int x1), (2, .int x2), (3, .int x3), (4, .int x4), (5, .int x5)] [] h (mX9_isProof_l26 x0 x1 x2 x3 x4 x5 h) (fun r => r = u) := by
    intro x0 x1 x2 x3 x4 x5
    have hB : ∀ (x5 : Int32), J x 26 [(0, vR x.2.2.2 x0), (1, .int x1), (2, .int x2), (3, .int x3), (4, .int x4), (5, .int x5)] [] h (mX9_isProof_l26f x0 x1 x2 x3 x4 h x5) (TL (S := Int32) x 26 (fun s => [(0, vR x.2.2.2 x0), (1, .int x1), (2, .int x2), (3, .int x3), (4, .int x4), (5, .int s)]) [] (fun s => h) (fun r => r = u)) := by
      intro x5
      have hb88 : ∀ (x0 : Nat) (x1 : Int32) (x2 : Int32) (x3 : Int32) (x4 : Int32) (x5 : Int32), J x 88 [(0, vR x.2.2.2 x0), (1, .int x1), (2, .int x2), (3, .int x3), (4, .int x4), (5, .int x5)] [] h (mX9_isProof_b88 x0 x1 x2 x3 x4 x5 h) (TL (S := Int32) x 26 (fun s => [(0, vR x.2.2.2 x0), (1, .int x1), (2, .int x2), (3, .int x3), (4, .int x4), (5, .int s)]) [] (fun s => h) (fun r => r = u)) := by
        intro x0 x1 x2 x3 x4 x5
        unfold mX9_isProof_b88
        refine j_iinc (q := 91) (l2 := [(0, vR x.2.2.2 x0), (1, .int x1), (2, .int x2), (3, .int x3), (4, .int x4)]) hx (dc kX9_isProof_0 47 rfl) 5 rfl (v := (1 : Int32)) (by decide) (hn 5 (by decide)) [0, 1, 2, 3, 4] rfl ⟨⟨show (0 : Nat) ≠ 5 by decide, Or.inl (show (0 : Nat) + 1 ≠ 5 by decide)⟩, ⟨⟨show (1 : Nat) ≠ 5 by decide, Or.inl (show (1 : Nat) + 1 ≠ 5 by decide)⟩, ⟨⟨show (2 : Nat) ≠ 5 by decide, Or.inl (show (2 : Nat) + 1 ≠ 5 by decide)⟩, ⟨⟨show (3 : Nat) ≠ 5 by decide, Or.inl (show (3 : Nat) + 1 ≠ 5 by decide)⟩, ⟨⟨show (4 : Nat) ≠ 5 by decide, Or.inr rfl⟩, trivial⟩⟩⟩⟩⟩ rfl ?_
        refine j_goto (q := 26) hx (dc kX9_isProof_0 48 rfl) (by decide) ?_
        exact j_back [1, 2, 3, 4, 5, 0] (x5 + (1 : Int32)) rfl rfl
      have hb47 : ∀ (x0 : Nat) (x1 : Int32) (x2 : Int32) (x3 : Int32) (x4 : Int32) (x5 : Int32) (t0 : Int32), J x 47 [(0, vR x.2.2.2 x0), (1, .int x1), (2, .int x2), (3, .int x3), (4, .int x4), (5, .int x5)] [.int t0] h (mX9_isProof_b47 x0 x1 x2 x3 x4 x5 t0 h) (TL (S := Int32) x 26 (fun s => [(0, vR x.2.2.2 x0), (1, .int x1), (2, .int x2), (3, .int x3), (4, .int x4), (5, .int s)]) [] (fun s => h) (fun r => r = u)) := by
        intro x0 x1 x2 x3 x4 x5 t0
        unfold mX9_isProof_b47
        refine j_istore (q := 49) (i := 6) (l2 := [(0, vR x.2.2.2 x0), (1, .int x1), (2, .int x2), (3, .int x3), (4, .int x4), (5, .int x5)]) hx (dc kX9_isProof_0 25 rfl) (hn 6 (by decide)) [0, 1, 2, 3, 4, 5] rfl ⟨⟨show (0 : Nat) ≠ 6 by decide, Or.inl (show (0 : Nat) + 1 ≠ 6 by decide)⟩, ⟨⟨show (1 : Nat) ≠ 6 by decide, Or.inl (show (1 : Nat) + 1 ≠ 6 by decide)⟩, ⟨⟨show (2 : Nat) ≠ 6 by decide, Or.inl (show (2 : Nat) + 1 ≠ 6 by decide)⟩, ⟨⟨show (3 : Nat) ≠ 6 by decide, Or.inl (show (3 : Nat) + 1 ≠ 6 by decide)⟩, ⟨⟨show (4 : Nat) ≠ 6 by decide, Or.inl (show (4 : Nat) + 1 ≠ 6 by decide)⟩, ⟨⟨show (5 : Nat) ≠ 6 by decide, Or.inr rfl⟩, trivial⟩⟩⟩⟩⟩⟩ rfl ?_
        refine j_iload_n (q := 50) hx (dc kX9_isProof_0 26 rfl) rfl 2 rfl rfl ?_
        refine j_iload (q := 52) hx (dc kX9_isProof_0 27 rfl) 6 rfl rfl ?_
        refine w_cSIR (q := 55) (As := [.int x1, .int x5]) (st := []) hx (dc kX9_isProof_0 28 rfl) (cI _ my_X11_has lm_X9_46 (by decide)) st_X11_has rfl (fun u hu => sX11_has _ _ _ _ _ _ hu) (Nat.zero_le _) rfl (fun v8 => ?_)
        refine j_if_eq (q := 58) (tgt := 88) hx (dc kX9_isProof_0 29 rfl) (by decide) Iff.rfl rfl ?_ ?_
        · exact j_sub [1, 2, 3, 4, 5, 6] rfl (hb88 x0 x1 x2 x3 x4 x5)
        · refine j_aload_n (q := 59) hx (dc kX9_isProof_0 30 rfl) rfl 1 rfl rfl ?_
          refine w_gR (q := 62) hx (dc kX9_isProof_0 31 rfl) ff_X9_2 lk_X9_18 rfl (fun v10 => ?_)
          refine j_iload (q := 64) hx (dc kX9_isProof_0 32 rfl) 5 rfl rfl ?_
          refine j_iload (q := 66) hx (dc kX9_isProof_0 33 rfl) 0 rfl rfl ?_
          refine j_aload_n (q := 67) hx (dc kX9_isProof_0 34 rfl) rfl 1 rfl rfl ?_
          refine w_gR (q := 70) hx (dc kX9_isProof_0 35 rfl) ff_X9_0 lk_X9_9 rfl (fun v11 => ?_)
          refine j_iconst (q := 71) (v := (1 : Int32)) hx (dc kX9_isProof_0 36 rfl) (by decide) rfl ?_
          refine j_iload (q := 73) hx (dc kX9_isProof_0 37 rfl) 6 rfl rfl ?_
          refine j_ishl (q := 74) hx (dc kX9_isProof_0 38 rfl) rfl ?_
          refine w_cSIR (q := 77) (As := [vR x.2.2.2 v11, .int ((1 : Int32) <<< (x5 &&& 31))]) (st := [.int t0, .int x4, vR x.2.2.2 v10]) hx (dc kX9_isProof_0 39 rfl) (cI _ my_X11_at lm_X9_24 (by decide)) st_X11_at rfl (fun u hu => sX11_at _ _ _ _ _ _ hu) (sum_le (sum_I (sum_I (sum_R sum_nil))) (by decide)) rfl (fun v12 => ?_)
          refine j_imul (q := 78) hx (dc kX9_isProof_0 40 rfl) rfl ?_
          refine j_isub (q := 79) hx (dc kX9_isProof_0 41 rfl) rfl ?_
          refine w_cSIR (q := 82) (As := [vR x.2.2.2 v10, .int (x4 - (t0 * v12))]) (st := []) hx (dc kX9_isProof_0 42 rfl) (cI _ my_X11_at lm_X9_24 (by decide)) st_X11_at rfl (fun u hu => sX11_at _ _ _ _ _ _ hu) (Nat.zero_le _) rfl (fun v14 => ?_)
          refine j_iload_n (q := 83) hx (dc kX9_isProof_0 43 rfl) rfl 4 rfl rfl ?_
          refine j_icmp_neS (q := 86) (tgt := 88) hx (dc kX9_isProof_0 44 rfl) (by decide) rfl ?_ ?_
          · exact j_sub [1, 2, 3, 4, 5, 6] rfl (hb88 x0 x1 x2 x3 x4 x5)
          · refine j_exit ?_
            refine j_iconst (q := 87) (v := (0 : Int32)) hx (dc kX9_isProof_0 45 rfl) (by decide) rfl ?_
            exact r_cR hx (Or.inl rfl) hR (dc kX9_isProof_0 46 rfl)
      unfold mX9_isProof_l26f
      refine j_iload (q := 28) hx (dc kX9_isProof_0 15 rfl) 5 rfl rfl ?_
      refine j_bipush (q := 30) (v := (8 : Int32)) hx (dc kX9_isProof_0 16 rfl) (by decide) rfl ?_
      refine j_icmp_geS (q := 33) (tgt := 94) hx (dc kX9_isProof_0 17 rfl) (by decide) rfl ?_ ?_
      · refine j_exit ?_
        refine j_iconst (q := 95) (v := (1 : Int32)) hx (dc kX9_isProof_0 49 rfl) (by decide) rfl ?_
        exact r_cR hx (Or.inr rfl) hR (dc kX9_isProof_0 50 rfl)
      · refine j_iload_n (q := 34) hx (dc kX9_isProof_0 18 rfl) rfl 2 rfl rfl ?_
        refine j_iload (q := 36) hx (dc kX9_isProof_0 19 rfl) 5 rfl rfl ?_
        refine w_cSIR (q := 39) (As := [.int x2, .int x5]) (st := []) hx (dc kX9_isProof_0 20 rfl) (cI _ my_X11_has lm_X9_46 (by decide)) st_X11_has rfl (fun u hu => sX11_has _ _ _ _ _ _ hu) (Nat.zero_le _) rfl (fun v6 => ?_)
        refine j_if_eq (q := 42) (tgt := 46) hx (dc kX9_isProof_0 21 rfl) (by decide) Iff.rfl rfl ?_ ?_
        · refine j_iconst (q := 47) (v := (1 : Int32)) hx (dc kX9_isProof_0 24 rfl) (by decide) rfl ?_
          exact hb47 x0 x1 x2 x3 x4 x5 (1 : Int32)
        · refine j_iconst (q := 43) (v := (2 : Int32)) hx (dc kX9_isProof_0 22 rfl) (by decide) rfl ?_
          refine j_goto (q := 47) hx (dc kX9_isProof_0 23 rfl) (by decide) ?_
          exact hb47 x0 x1 x2 x3 x4 x5 (2 : Int32)
    exact j_loop (S := Int32) (lvf := fun s => [(0, vR x.2.2.2 x0), (1, .int x1), (2, .int x2), (3, .int x3), (4, .int x4), (5, .int s)]) (hpf := fun s => h) (f := (fun s : Int32 => mX9_isProof_l26f x0 x1 x2 x3 x4 h s)) (fun s => hB s) x5
  unfold mX9_isProof
  refine J.ckd fun hk0 => ?_
  refine j_aload_n (q := 1) hx (dc kX9_isProof_0 0 rfl) rfl 0 rfl rfl ?_
  refine j_iload_n (q := 2) hx (dc kX9_isProof_0 1 rfl) rfl 1 rfl rfl ?_
  refine j_iload_n (q := 3) hx (dc kX9_isProof_0 2 rfl) rfl 2 rfl rfl ?_
  refine w_cVIR (q := 6) (As := [.int x1, .int x2]) (st := []) hx (dc kX9_isProof_0 3 rfl) cf9 (by decide) rfl (cI _ my_X9_node lm_X9_32 (by decide)) vs_X9_node rfl (fun u hu => sX9_node _ _ _ _ _ _ _ hu) (fun e => ite_ne (by unfold mX9_node at e; exact e)) (Nat.zero_le _) rfl (fun v1 => ?_)
  refine j_istore (q := 8) (i := 4) (l2 := [(0, vR x.2.2.2 x0), (1, .int x1), (2, .int x2), (3, .int x3)]) hx (dc kX9_isProof_0 4 rfl) (hn 4 (by decide)) [0, 1, 2, 3] rfl ⟨⟨show (0 : Nat) ≠ 4 by decide, Or.inl (show (0 : Nat) + 1 ≠ 4 by decide)⟩, ⟨⟨show (1 : Nat) ≠ 4 by decide, Or.inl (show (1 : Nat) + 1 ≠ 4 by decide)⟩, ⟨⟨show (2 : Nat) ≠ 4 by decide, Or.inl (show (2 : Nat) + 1 ≠ 4 by decide)⟩, ⟨⟨show (3 : Nat) ≠ 4 by decide, Or.inr rfl⟩, trivial⟩⟩⟩⟩ rfl ?_
  refine j_aload_n (q := 9) hx (dc kX9_isProof_0 5 rfl) rfl 1 rfl rfl ?_
  refine w_gR (q := 12) hx (dc kX9_isProof_0 6 rfl) ff_X9_2 lk_X9_18 rfl (fun v3 => ?_)
  refine j_iload (q := 14) hx (dc kX9_isProof_0 7 rfl) 0 rfl rfl ?_
  refine w_cSIR (q := 17) (As := [vR x.2.2.2 v3, .int v1]) (st := []) hx (dc kX9_isProof_0 8 rfl) (cI _ my_X11_at lm_X9_24 (by decide)) st_X11_at rfl (fun u hu => sX11_at _ _ _ _ _ _ hu) (Nat.zero_le _) rfl (fun v4 => ?_)
  refine j_iload_n (q := 18) hx (dc kX9_isProof_0 9 rfl) rfl 4 rfl rfl ?_
  refine j_icmp_eq (q := 21) (tgt := 23) hx (dc kX9_isProof_0 10 rfl) (by decide) Iff.rfl rfl ?_ ?_
  · refine j_iconst (q := 24) (v := (0 : Int32)) hx (dc kX9_isProof_0 13 rfl) (by decide) rfl ?_
    refine j_istore (q := 26) (i := 5) (l2 := [(4, .int v1), (0, vR x.2.2.2 x0), (1, .int x1), (2, .int x2), (3, .int x3)]) hx (dc kX9_isProof_0 14 rfl) (hn 5 (by decide)) [0, 1, 2, 3, 4] rfl ⟨⟨show (4 : Nat) ≠ 5 by decide, Or.inr rfl⟩, ⟨⟨show (0 : Nat) ≠ 5 by decide, Or.inl (show (0 : Nat) + 1 ≠ 5 by decide)⟩, ⟨⟨show (1 : Nat) ≠ 5 by decide, Or.inl (show (1 : Nat) + 1 ≠ 5 by decide)⟩, ⟨⟨show (2 : Nat) ≠ 5 by decide, Or.inl (show (2 : Nat) + 1 ≠ 5 by decide)⟩, ⟨⟨show (3 : Nat) ≠ 5 by decide, Or.inl (show (3 : Nat) + 1 ≠ 5 by decide)⟩, trivial⟩⟩⟩⟩⟩ rfl ?_
    exact j_sub [2, 3, 4, 5, 1, 0] rfl (hb26 x0 x1 x2 x3 v1 (0 : Int32))
  · refine j_iconst (q := 22) (v := (0 : Int32)) hx (dc kX9_isProof_0 11 rfl) (by decide) rfl ?_
    exact r_cR hx (Or.inl rfl) hR (dc kX9_isProof_0 12 rfl)

set_option maxHeartbeats 4000000 in
set_option maxRecDepth 100000 in
theorem sX10_copy (l : Launch) (w : Wd) (x0 : Nat) (x1 : Nat) (h : Hp) (u : Hp) (hK : mX10_copy x0 x1 h = some u) : M1 l w mi_X10_copy 1 [vR w x0, vR w x1] h u (none) := by
  refine M1.of (own := RX10) (T := fun _ r => r = u) hK (by decide +kernel) rfl (by first | (simp only [lg_lenR, lg_lenI, lg_lenL, lg_len0]; decide) | decide) (fun x hx hnl hhf hl hw hret hnm hQ h0e => ⟨?_, rfl⟩)
  subst hw
  subst hl
  have hR : Rt x h u (none) (none) := ⟨h0e, hhf, hret, hQ⟩
  have hn : ∀ i, i < 3 → i < x.2.2.1.1.1 := fun i hi => by rw [hnl]; exact hi
  have e0 : lv_args 0 [vR x.2.2.2 x0, vR x.2.2.2 x1] = [(0, vR x.2.2.2 x0), (1, vR x.2.2.2 x1)] := by simp only [lv_argsR, lv_argsI, lv_argsL, lv_args0]
  rw [e0]
  have hb2 : ∀ (x0 : Nat) (x1 : Nat) (x2 : Int32) (h : Hp), J x 2 [(0, vR x.2.2.2 x0), (1, vR x.2.2.2 x1), (2, .int x2)] [] h (mX10_copy_l2 x0 x1 x2 h) (fun r => r = u) := by
    intro x0 x1 x2 h
    have hB : ∀ (x2 : Int32) (h : Hp), J x 2 [(0, vR x.2.2.2 x0), (1, vR x.2.2.2 x1), (2, .int x2)] [] h (mX10_copy_l2f x0 x1 x2 h) (TL (S := (Int32 × Hp)) x 2 (fun s => [(0, vR x.2.2.2 x0), (1, vR x.2.2.2 x1), (2, .int s.1)]) [] (fun s => s.2) (fun r => r = u)) := by
      intro x2 h
      unfold mX10_copy_l2f
      refine j_iload_n (q := 3) hx (dc kX10_copy_0 2 rfl) rfl 2 rfl rfl ?_
      refine j_aload_n (q := 4) hx (dc kX10_copy_0 3 rfl) rfl 0 rfl rfl ?_
      refine w_gR (q := 7) hx (dc kX10_copy_0 4 rfl) ff_X10_0 lk_X10_9 rfl (fun v1 => ?_)
      refine j_alen (q := 8) hx (dc kX10_copy_0 5 rfl) rfl (fun v2 => ?_)
      refine j_icmp_geS (q := 11) (tgt := 38) hx (dc kX10_copy_0 6 rfl) (by decide) rfl ?_ ?_
      · refine j_exit ?_
        exact r_vW hx hR (dc kX10_copy_0 22 rfl)
      · refine j_iload_n (q := 12) hx (dc kX10_copy_0 7 rfl) rfl 2 rfl rfl ?_
        refine j_aload_n (q := 13) hx (dc kX10_copy_0 8 rfl) rfl 1 rfl rfl ?_
        refine w_gR (q := 16) hx (dc kX10_copy_0 9 rfl) ff_X10_0 lk_X10_9 rfl (fun v3 => ?_)
        refine j_alen (q := 17) hx (dc kX10_copy_0 10 rfl) rfl (fun v4 => ?_)
        refine j_icmp_geS (q := 20) (tgt := 38) hx (dc kX10_copy_0 11 rfl) (by decide) rfl ?_ ?_
        · refine j_exit ?_
          exact r_vW hx hR (dc kX10_copy_0 22 rfl)
        · refine j_aload_n (q := 21) hx (dc kX10_copy_0 12 rfl) rfl 0 rfl rfl ?_
          refine w_gR (q := 24) hx (dc kX10_copy_0 13 rfl) ff_X10_0 lk_X10_9 rfl (fun v5 => ?_)
          refine j_iload_n (q := 25) hx (dc kX10_copy_0 14 rfl) rfl 2 rfl rfl ?_
          refine j_aload_n (q := 26) hx (dc kX10_copy_0 15 rfl) rfl 1 rfl rfl ?_
          refine w_gR (q := 29) hx (dc kX10_copy_0 16 rfl) ff_X10_0 lk_X10_9 rfl (fun v6 => ?_)
          refine j_iload_n (q := 30) hx (dc kX10_copy_0 17 rfl) rfl 2 rfl rfl ?_
          refine j_ldL (q := 31) hx (dc kX10_copy_0 18 rfl) rfl (fun v7 => ?_)
          refine w_stL (q := 32) hx (dc kX10_copy_0 19 rfl) rfl (fun h8 => ?_)
          refine j_iinc (q := 35) (l2 := [(0, vR x.2.2.2 x0), (1, vR x.2.2.2 x1)]) hx (dc kX10_copy_0 20 rfl) 2 rfl (v := (1 : Int32)) (by decide) (hn 2 (by decide)) [0, 1] rfl ⟨⟨show (0 : Nat) ≠ 2 by decide, Or.inl (show (0 : Nat) + 1 ≠ 2 by decide)⟩, ⟨⟨show (1 : Nat) ≠ 2 by decide, Or.inr (vR_cat _ _)⟩, trivial⟩⟩ rfl ?_
          refine j_goto (q := 2) hx (dc kX10_copy_0 21 rfl) (by decide) ?_
          exact j_back [1, 2, 0] ((x2 + (1 : Int32)), h8) rfl rfl
    exact j_loop (S := (Int32 × Hp)) (lvf := fun s => [(0, vR x.2.2.2 x0), (1, vR x.2.2.2 x1), (2, .int s.1)]) (hpf := fun s => s.2) (f := (fun s : (Int32 × Hp) => mX10_copy_l2f x0 x1 s.1 s.2)) (fun s => hB s.1 s.2) (x2, h)
  unfold mX10_copy
  refine J.ckd fun hk0 => ?_
  refine j_iconst (q := 1) (v := (0 : Int32)) hx (dc kX10_copy_0 0 rfl) (by decide) rfl ?_
  refine j_istore_n (q := 2) (i := 2) (l2 := [(0, vR x.2.2.2 x0), (1, vR x.2.2.2 x1)]) hx (dc kX10_copy_0 1 rfl) rfl (hn 2 (by decide)) [0, 1] rfl ⟨⟨show (0 : Nat) ≠ 2 by decide, Or.inl (show (0 : Nat) + 1 ≠ 2 by decide)⟩, ⟨⟨show (1 : Nat) ≠ 2 by decide, Or.inr (vR_cat _ _)⟩, trivial⟩⟩ rfl ?_
  exact j_sub [1, 2, 0] rfl (hb2 x0 x1 (0 : Int32) h)

set_option maxHeartbeats 4000000 in
set_option maxRecDepth 100000 in
theorem sX10_howIn (l : Launch) (w : Wd) (x0 : Nat) (x1 : Nat) (h : Hp) (u : Int32) (hK : mX10_howIn x0 x1 h = some u) : M1 l w mi_X10_howIn 2 [vR w x0, vR w x1] h h (some (.int u)) := by
  refine M1.of (own := RX10) (T := fun _ r => r = u) hK (by decide +kernel) rfl (by first | (simp only [lg_lenR, lg_lenI, lg_lenL, lg_len0]; decide) | decide) (fun x hx hnl hhf hl hw hret hnm hQ h0e => ⟨?_, rfl⟩)
  subst hw
  subst hl
  have hR : Rt x h h (some (.int u)) ((some .int)) := ⟨h0e, hhf, hret, hQ⟩
  have hn : ∀ i, i < 2 → i < x.2.2.1.1.1 := fun i hi => by rw [hnl]; exact hi
  have e0 : lv_args 0 [vR x.2.2.2 x0, vR x.2.2.2 x1] = [(0, vR x.2.2.2 x0), (1, vR x.2.2.2 x1)] := by simp only [lv_argsR, lv_argsI, lv_argsL, lv_args0]
  rw [e0]
  unfold mX10_howIn
  refine J.ckd fun hk0 => ?_
  refine j_aload_n (q := 1) hx (dc kX10_howIn_0 0 rfl) rfl 0 rfl rfl ?_
  refine j_aload_n (q := 2) hx (dc kX10_howIn_0 1 rfl) rfl 1 rfl rfl ?_
  refine w_cVIR (q := 5) (As := [vR x.2.2.2 x1]) (st := []) hx (dc kX10_howIn_0 2 rfl) cf10 (by decide) rfl (cI _ my_X10_within lm_X10_42 (by decide)) vs_X10_within rfl (fun u hu => sX10_within _ _ _ _ _ _ hu) (fun e => ite_ne (by unfold mX10_within at e; exact e)) (Nat.zero_le _) rfl (fun v1 => ?_)
  refine j_if_eq (q := 8) (tgt := 12) hx (dc kX10_howIn_0 3 rfl) (by decide) Iff.rfl rfl ?_ ?_
  · refine j_aload_n (q := 13) hx (dc kX10_howIn_0 6 rfl) rfl 0 rfl rfl ?_
    refine j_aload_n (q := 14) hx (dc kX10_howIn_0 7 rfl) rfl 1 rfl rfl ?_
    refine w_cVIR (q := 17) (As := [vR x.2.2.2 x1]) (st := []) hx (dc kX10_howIn_0 8 rfl) cf10 (by decide) rfl (cI _ my_X10_meets lm_X10_46 (by decide)) vs_X10_meets rfl (fun u hu => sX10_meets _ _ _ _ _ _ hu) (fun e => ite_ne (by unfold mX10_meets at e; exact e)) (Nat.zero_le _) rfl (fun v3 => ?_)
    refine j_if_eq (q := 20) (tgt := 24) hx (dc kX10_howIn_0 9 rfl) (by decide) Iff.rfl rfl ?_ ?_
    · refine j_iconst (q := 25) (v := (0 : Int32)) hx (dc kX10_howIn_0 12 rfl) (by decide) rfl ?_
      exact r_iR hx hR (dc kX10_howIn_0 13 rfl)
    · refine j_iconst (q := 21) (v := (2 : Int32)) hx (dc kX10_howIn_0 10 rfl) (by decide) rfl ?_
      refine j_goto (q := 25) hx (dc kX10_howIn_0 11 rfl) (by decide) ?_
      exact r_iR hx hR (dc kX10_howIn_0 13 rfl)
  · refine j_iconst (q := 9) (v := (1 : Int32)) hx (dc kX10_howIn_0 4 rfl) (by decide) rfl ?_
    refine j_goto (q := 25) hx (dc kX10_howIn_0 5 rfl) (by decide) ?_
    exact r_iR hx hR (dc kX10_howIn_0 13 rfl)

