set_option maxHeartbeats 4000000 in
set_option maxRecDepth 100000 in
theorem sX5_sayers (l : Launch) (w : Wd) (x0 : Nat) (x1 : Int32) (h : Hp) (u : Int32) (hK : mX5_sayers x0 x1 h = some u) : M1 l w mi_X5_sayers 2 [vR w x0, .int x1] h h (some (.int u)) := by
  refine M1.of (own := RX5) (T := fun _ r => r = u) hK (by decide +kernel) rfl (by first | (simp only [lg_lenR, lg_lenI, lg_lenL, lg_len0]; decide) | decide) (fun x hx hnl hhf hl hw hret hnm hQ h0e => ⟨?_, rfl⟩)
  subst hw
  subst hl
  have hR : Rt x h h (some (.int u)) ((some .int)) := ⟨h0e, hhf, hret, hQ⟩
  have hn : ∀ i, i < 4 → i < x.2.2.1.1.1 := fun i hi => by rw [hnl]; exact hi
  have e0 : lv_args 0 [vR x.2.2.2 x0, .int x1] = [(0, vR x.2.2.2 x0), (1, .int x1)] := by simp only [lv_argsR, lv_argsI, lv_argsL, lv_args0]
  rw [e0]
  have hb4 : ∀ (x0 : Nat) (x1 : Int32) (x2 : Int32) (x3 : Int32), J x 4 [(0, vR x.2.2.2 x0), (1, .int x1), (2, .int x2), (3, .int x3)] [] h (mX5_sayers_l4 x0 x1 x2 x3 h) (fun r => r = u) := by
    intro x0 x1 x2 x3
    have hB : ∀ (x2 : Int32) (x3 : Int32), J x 4 [(0, vR x.2.2.2 x0), (1, .int x1), (2, .int x2), (3, .int x3)] [] h (mX5_sayers_l4f x0 x1 h x2 x3) (TLo (S := (Int32 × Int32)) x 4 (fun s => [(0, vR x.2.2.2 x0), (1, .int x1), (2, .int s.1), (3, .int s.2)]) [] (fun s => h) (fun r => r = u)) := by
      intro x2 x3
      have hb33 : ∀ (x0 : Nat) (x1 : Int32) (x2 : Int32) (x3 : Int32), J x 33 [(0, vR x.2.2.2 x0), (1, .int x1), (2, .int x2), (3, .int x3)] [] h (mX5_sayers_b33 x0 x1 x2 x3 h) (TLo (S := (Int32 × Int32)) x 4 (fun s => [(0, vR x.2.2.2 x0), (1, .int x1), (2, .int s.1), (3, .int s.2)]) [] (fun s => h) (fun r => r = u)) := by
        intro x0 x1 x2 x3
        unfold mX5_sayers_b33
        refine j_iinc (q := 36) (l2 := [(0, vR x.2.2.2 x0), (1, .int x1), (2, .int x2)]) hx (dc kX5_sayers_0 21 rfl) 3 rfl (v := (1 : Int32)) (by decide) (hn 3 (by decide)) [0, 1, 2] rfl ⟨⟨show (0 : Nat) ≠ 3 by decide, Or.inl (show (0 : Nat) + 1 ≠ 3 by decide)⟩, ⟨⟨show (1 : Nat) ≠ 3 by decide, Or.inl (show (1 : Nat) + 1 ≠ 3 by decide)⟩, ⟨⟨show (2 : Nat) ≠ 3 by decide, Or.inr rfl⟩, trivial⟩⟩⟩ rfl ?_
        refine j_goto (q := 4) hx (dc kX5_sayers_0 22 rfl) (by decide) ?_
        exact j_back [1, 2, 3, 0] (x2, (x3 + (1 : Int32))) rfl rfl
      unfold mX5_sayers_l4f
      refine j_iload_n (q := 5) hx (dc kX5_sayers_0 4 rfl) rfl 3 rfl rfl ?_
      refine j_aload_n (q := 6) hx (dc kX5_sayers_0 5 rfl) rfl 0 rfl rfl ?_
      refine w_gI (q := 9) hx (dc kX5_sayers_0 6 rfl) ff_X5_2 lk_X5_38 rfl (fun v1 => ?_)
      refine j_icmp_geS (q := 12) (tgt := 39) hx (dc kX5_sayers_0 7 rfl) (by decide) rfl ?_ ?_
      · refine j_exit ?_
        refine j_iload_n (q := 40) hx (dc kX5_sayers_0 23 rfl) rfl 2 rfl rfl ?_
        exact r_iR hx hR (dc kX5_sayers_0 24 rfl)
      · refine j_aload_n (q := 13) hx (dc kX5_sayers_0 8 rfl) rfl 0 rfl rfl ?_
        refine w_gR (q := 16) hx (dc kX5_sayers_0 9 rfl) ff_X5_13 lk_X5_24 rfl (fun v2 => ?_)
        refine j_iload_n (q := 17) hx (dc kX5_sayers_0 10 rfl) rfl 3 rfl rfl ?_
        refine w_cSIR (q := 20) (As := [vR x.2.2.2 v2, .int x3]) (st := []) hx (dc kX5_sayers_0 11 rfl) (cI _ my_X11_at lm_X5_73 (by decide)) st_X11_at rfl (fun u hu => sX11_at _ _ _ _ _ _ hu) (Nat.zero_le _) rfl (fun v3 => ?_)
        refine j_iload_n (q := 21) hx (dc kX5_sayers_0 12 rfl) rfl 1 rfl rfl ?_
        refine w_cSIR (q := 24) (As := [.int v3, .int x1]) (st := []) hx (dc kX5_sayers_0 13 rfl) (cI _ my_X11_has lm_X5_69 (by decide)) st_X11_has rfl (fun u hu => sX11_has _ _ _ _ _ _ hu) (Nat.zero_le _) rfl (fun v5 => ?_)
        refine j_if_eq (q := 27) (tgt := 33) hx (dc kX5_sayers_0 14 rfl) (by decide) Iff.rfl rfl ?_ ?_
        · exact hb33 x0 x1 x2 x3
        · refine j_iload_n (q := 28) hx (dc kX5_sayers_0 15 rfl) rfl 2 rfl rfl ?_
          refine j_iconst (q := 29) (v := (1 : Int32)) hx (dc kX5_sayers_0 16 rfl) (by decide) rfl ?_
          refine j_iload_n (q := 30) hx (dc kX5_sayers_0 17 rfl) rfl 3 rfl rfl ?_
          refine j_ishl (q := 31) hx (dc kX5_sayers_0 18 rfl) rfl ?_
          refine j_ior (q := 32) hx (dc kX5_sayers_0 19 rfl) rfl ?_
          refine j_istore_n (q := 33) (i := 2) (l2 := [(0, vR x.2.2.2 x0), (1, .int x1), (3, .int x3)]) hx (dc kX5_sayers_0 20 rfl) rfl (hn 2 (by decide)) [0, 1, 3] rfl ⟨⟨show (0 : Nat) ≠ 2 by decide, Or.inl (show (0 : Nat) + 1 ≠ 2 by decide)⟩, ⟨⟨show (1 : Nat) ≠ 2 by decide, Or.inr rfl⟩, ⟨⟨show (3 : Nat) ≠ 2 by decide, Or.inl (show (3 : Nat) + 1 ≠ 2 by decide)⟩, trivial⟩⟩⟩ rfl ?_
          exact j_sub [1, 2, 0, 3] rfl (hb33 x0 x1 (x2 ||| ((1 : Int32) <<< (x3 &&& 31))) x3)
    exact j_loop (S := (Int32 × Int32)) (lvf := fun s => [(0, vR x.2.2.2 x0), (1, .int x1), (2, .int s.1), (3, .int s.2)]) (hpf := fun s => h) (f := (fun s : (Int32 × Int32) => mX5_sayers_l4f x0 x1 h s.1 s.2)) (fun s => hB s.1 s.2) (x2, x3)
  unfold mX5_sayers
  refine J.ckd fun hck => ?_
  refine j_iconst (q := 1) (v := (0 : Int32)) hx (dc kX5_sayers_0 0 rfl) (by decide) rfl ?_
  refine j_istore_n (q := 2) (i := 2) (l2 := [(0, vR x.2.2.2 x0), (1, .int x1)]) hx (dc kX5_sayers_0 1 rfl) rfl (hn 2 (by decide)) [0, 1] rfl ⟨⟨show (0 : Nat) ≠ 2 by decide, Or.inl (show (0 : Nat) + 1 ≠ 2 by decide)⟩, ⟨⟨show (1 : Nat) ≠ 2 by decide, Or.inr rfl⟩, trivial⟩⟩ rfl ?_
  refine j_iconst (q := 3) (v := (0 : Int32)) hx (dc kX5_sayers_0 2 rfl) (by decide) rfl ?_
  refine j_istore_n (q := 4) (i := 3) (l2 := [(2, .int (0 : Int32)), (0, vR x.2.2.2 x0), (1, .int x1)]) hx (dc kX5_sayers_0 3 rfl) rfl (hn 3 (by decide)) [0, 1, 2] rfl ⟨⟨show (2 : Nat) ≠ 3 by decide, Or.inr rfl⟩, ⟨⟨show (0 : Nat) ≠ 3 by decide, Or.inl (show (0 : Nat) + 1 ≠ 3 by decide)⟩, ⟨⟨show (1 : Nat) ≠ 3 by decide, Or.inl (show (1 : Nat) + 1 ≠ 3 by decide)⟩, trivial⟩⟩⟩ rfl ?_
  exact j_sub [2, 3, 1, 0] rfl (hb4 x0 x1 (0 : Int32) (0 : Int32))

set_option maxHeartbeats 4000000 in
set_option maxRecDepth 100000 in
theorem sX5_firstSayer (l : Launch) (w : Wd) (x0 : Nat) (x1 : Int32) (h : Hp) (u : Int32) (hK : mX5_firstSayer x0 x1 h = some u) : M1 l w mi_X5_firstSayer 2 [vR w x0, .int x1] h h (some (.int u)) := by
  refine M1.of (own := RX5) (T := fun _ r => r = u) hK (by decide +kernel) rfl (by first | (simp only [lg_lenR, lg_lenI, lg_lenL, lg_len0]; decide) | decide) (fun x hx hnl hhf hl hw hret hnm hQ h0e => ⟨?_, rfl⟩)
  subst hw
  subst hl
  have hR : Rt x h h (some (.int u)) ((some .int)) := ⟨h0e, hhf, hret, hQ⟩
  have hn : ∀ i, i < 3 → i < x.2.2.1.1.1 := fun i hi => by rw [hnl]; exact hi
  have e0 : lv_args 0 [vR x.2.2.2 x0, .int x1] = [(0, vR x.2.2.2 x0), (1, .int x1)] := by simp only [lv_argsR, lv_argsI, lv_argsL, lv_args0]
  rw [e0]
  have hb2 : ∀ (x0 : Nat) (x1 : Int32) (x2 : Int32), J x 2 [(0, vR x.2.2.2 x0), (1, .int x1), (2, .int x2)] [] h (mX5_firstSayer_l2 x0 x1 x2 h) (fun r => r = u) := by
    intro x0 x1 x2
    have hB : ∀ (x2 : Int32), J x 2 [(0, vR x.2.2.2 x0), (1, .int x1), (2, .int x2)] [] h (mX5_firstSayer_l2f x0 x1 h x2) (TLo (S := Int32) x 2 (fun s => [(0, vR x.2.2.2 x0), (1, .int x1), (2, .int s)]) [] (fun s => h) (fun r => r = u)) := by
      intro x2
      have hb38 : ∀ (x0 : Nat) (x1 : Int32) (x2 : Int32), J x 38 [(0, vR x.2.2.2 x0), (1, .int x1), (2, .int x2)] [] h (mX5_firstSayer_b38 x0 x1 x2 h) (TLo (S := Int32) x 2 (fun s => [(0, vR x.2.2.2 x0), (1, .int x1), (2, .int s)]) [] (fun s => h) (fun r => r = u)) := by
        intro x0 x1 x2
        unfold mX5_firstSayer_b38
        refine j_iinc (q := 41) (l2 := [(0, vR x.2.2.2 x0), (1, .int x1)]) hx (dc kX5_firstSayer_0 20 rfl) 2 rfl (v := (1 : Int32)) (by decide) (hn 2 (by decide)) [0, 1] rfl ⟨⟨show (0 : Nat) ≠ 2 by decide, Or.inl (show (0 : Nat) + 1 ≠ 2 by decide)⟩, ⟨⟨show (1 : Nat) ≠ 2 by decide, Or.inr rfl⟩, trivial⟩⟩ rfl ?_
        refine j_goto (q := 2) hx (dc kX5_firstSayer_0 21 rfl) (by decide) ?_
        exact j_back [1, 2, 0] (x2 + (1 : Int32)) rfl rfl
      unfold mX5_firstSayer_l2f
      refine j_iload_n (q := 3) hx (dc kX5_firstSayer_0 2 rfl) rfl 2 rfl rfl ?_
      refine j_aload_n (q := 4) hx (dc kX5_firstSayer_0 3 rfl) rfl 0 rfl rfl ?_
      refine w_gI (q := 7) hx (dc kX5_firstSayer_0 4 rfl) ff_X5_2 lk_X5_38 rfl (fun v1 => ?_)
      refine j_icmp_geS (q := 10) (tgt := 44) hx (dc kX5_firstSayer_0 5 rfl) (by decide) rfl ?_ ?_
      · refine j_exit ?_
        refine j_iconst (q := 45) (v := (-1 : Int32)) hx (dc kX5_firstSayer_0 22 rfl) (by decide) rfl ?_
        exact r_iR hx hR (dc kX5_firstSayer_0 23 rfl)
      · refine j_aload_n (q := 11) hx (dc kX5_firstSayer_0 6 rfl) rfl 0 rfl rfl ?_
        refine w_gR (q := 14) hx (dc kX5_firstSayer_0 7 rfl) ff_X5_13 lk_X5_24 rfl (fun v2 => ?_)
        refine j_iload_n (q := 15) hx (dc kX5_firstSayer_0 8 rfl) rfl 2 rfl rfl ?_
        refine w_cSIR (q := 18) (As := [vR x.2.2.2 v2, .int x2]) (st := []) hx (dc kX5_firstSayer_0 9 rfl) (cI _ my_X11_at lm_X5_73 (by decide)) st_X11_at rfl (fun u hu => sX11_at _ _ _ _ _ _ hu) (Nat.zero_le _) rfl (fun v3 => ?_)
        refine j_iload_n (q := 19) hx (dc kX5_firstSayer_0 10 rfl) rfl 1 rfl rfl ?_
        refine w_cSIR (q := 22) (As := [.int v3, .int x1]) (st := []) hx (dc kX5_firstSayer_0 11 rfl) (cI _ my_X11_has lm_X5_69 (by decide)) st_X11_has rfl (fun u hu => sX11_has _ _ _ _ _ _ hu) (Nat.zero_le _) rfl (fun v5 => ?_)
        refine j_if_eq (q := 25) (tgt := 38) hx (dc kX5_firstSayer_0 12 rfl) (by decide) Iff.rfl rfl ?_ ?_
        · exact hb38 x0 x1 x2
        · refine j_aload_n (q := 26) hx (dc kX5_firstSayer_0 13 rfl) rfl 0 rfl rfl ?_
          refine w_gI (q := 29) hx (dc kX5_firstSayer_0 14 rfl) ff_X5_3 lk_X5_41 rfl (fun v7 => ?_)
          refine j_iload_n (q := 30) hx (dc kX5_firstSayer_0 15 rfl) rfl 2 rfl rfl ?_
          refine w_cSIR (q := 33) (As := [.int v7, .int x2]) (st := []) hx (dc kX5_firstSayer_0 16 rfl) (cI _ my_X11_has lm_X5_69 (by decide)) st_X11_has rfl (fun u hu => sX11_has _ _ _ _ _ _ hu) (Nat.zero_le _) rfl (fun v8 => ?_)
          refine j_if_neS (q := 36) (tgt := 38) hx (dc kX5_firstSayer_0 17 rfl) (by decide) rfl ?_ ?_
          · exact hb38 x0 x1 x2
          · refine j_exit ?_
            refine j_iload_n (q := 37) hx (dc kX5_firstSayer_0 18 rfl) rfl 2 rfl rfl ?_
            exact r_iR hx hR (dc kX5_firstSayer_0 19 rfl)
    exact j_loop (S := Int32) (lvf := fun s => [(0, vR x.2.2.2 x0), (1, .int x1), (2, .int s)]) (hpf := fun s => h) (f := (fun s : Int32 => mX5_firstSayer_l2f x0 x1 h s)) (fun s => hB s) x2
  unfold mX5_firstSayer
  refine J.ckd fun hck => ?_
  refine j_iconst (q := 1) (v := (0 : Int32)) hx (dc kX5_firstSayer_0 0 rfl) (by decide) rfl ?_
  refine j_istore_n (q := 2) (i := 2) (l2 := [(0, vR x.2.2.2 x0), (1, .int x1)]) hx (dc kX5_firstSayer_0 1 rfl) rfl (hn 2 (by decide)) [0, 1] rfl ⟨⟨show (0 : Nat) ≠ 2 by decide, Or.inl (show (0 : Nat) + 1 ≠ 2 by decide)⟩, ⟨⟨show (1 : Nat) ≠ 2 by decide, Or.inr rfl⟩, trivial⟩⟩ rfl ?_
  exact j_sub [1, 2, 0] rfl (hb2 x0 x1 (0 : Int32))

set_option maxHeartbeats 4000000 in
set_option maxRecDepth 100000 in
theorem sX6_init {x0 : Nat} (hvx0 : x0 ≠ 0) (l : Launch) (w : Wd) (h : Hp) (u : Hp) (hK : mX6_init x0 h = some u) : M1 l w mi_X6_init 1 [vR w x0] h u (none) := by
  refine M1.of (own := RX6) (T := fun _ r => r = u) hK (by decide +kernel) rfl (by first | (simp only [lg_lenR, lg_lenI, lg_lenL, lg_len0]; decide) | decide) (fun x hx hnl hhf hl hw hret hnm hQ h0e => ⟨?_, rfl⟩)
  subst hw
  subst hl
  have hR : Rt x h u (none) (none) := ⟨h0e, hhf, hret, hQ⟩
  have hn : ∀ i, i < 1 → i < x.2.2.1.1.1 := fun i hi => by rw [hnl]; exact hi
  have e0 : lv_args 0 [vR x.2.2.2 x0] = [(0, vR x.2.2.2 x0)] := by simp only [lv_argsR, lv_argsI, lv_argsL, lv_args0]
  rw [e0]
  unfold mX6_init
  refine j_aload_n (q := 1) hx (dc kX6_init_0 0 rfl) rfl 0 rfl rfl ?_
  refine j_obj (q := 4) hx (dc kX6_init_0 1 rfl) lo_X6_3 hvx0 (by decide) (Nat.zero_le _) rfl ?_
  refine j_aload_n (q := 5) hx (dc kX6_init_0 2 rfl) rfl 0 rfl rfl ?_
  refine j_sipush (q := 8) (v := (256 : Int32)) hx (dc kX6_init_0 3 rfl) (by decide) rfl ?_
  refine j_newarray50 (q := 10) hx (dc kX6_init_0 4 rfl) ac_I (by decide) (by decide) (by decide) rfl (fun v2 hvv2 h1 => ?_)
  refine w_sR (q := 13) hx (dc kX6_init_0 5 rfl) ff_X6_0 lk_X6_9 (Or.inr ⟨hnm, rfl, rfl, lt_X6_9⟩) rfl (fun h3 => ?_)
  refine j_aload_n (q := 14) hx (dc kX6_init_0 6 rfl) rfl 0 rfl rfl ?_
  refine j_sipush (q := 17) (v := (256 : Int32)) hx (dc kX6_init_0 7 rfl) (by decide) rfl ?_
  refine j_newarray50 (q := 19) hx (dc kX6_init_0 8 rfl) ac_I (by decide) (by decide) (by decide) rfl (fun v5 hvv5 h4 => ?_)
  refine w_sR (q := 22) hx (dc kX6_init_0 9 rfl) ff_X6_1 lk_X6_15 (Or.inr ⟨hnm, rfl, rfl, lt_X6_15⟩) rfl (fun h6 => ?_)
  refine j_aload_n (q := 23) hx (dc kX6_init_0 10 rfl) rfl 0 rfl rfl ?_
  refine j_sipush (q := 26) (v := (256 : Int32)) hx (dc kX6_init_0 11 rfl) (by decide) rfl ?_
  refine j_newarray50 (q := 28) hx (dc kX6_init_0 12 rfl) ac_I (by decide) (by decide) (by decide) rfl (fun v8 hvv8 h7 => ?_)
  refine w_sR (q := 31) hx (dc kX6_init_0 13 rfl) ff_X6_2 lk_X6_18 (Or.inr ⟨hnm, rfl, rfl, lt_X6_18⟩) rfl (fun h9 => ?_)
  refine j_aload_n (q := 32) hx (dc kX6_init_0 14 rfl) rfl 0 rfl rfl ?_
  refine j_sipush (q := 35) (v := (256 : Int32)) hx (dc kX6_init_0 15 rfl) (by decide) rfl ?_
  refine j_newarray51 (q := 37) hx (dc kX6_init_0 16 rfl) ac_J (by decide) (by decide) (by decide) rfl (fun v11 hvv11 h10 => ?_)
  refine w_sR (q := 40) hx (dc kX6_init_0 17 rfl) ff_X6_3 lk_X6_21 (Or.inr ⟨hnm, rfl, rfl, lt_X6_21⟩) rfl (fun h12 => ?_)
  refine j_aload_n (q := 41) hx (dc kX6_init_0 18 rfl) rfl 0 rfl rfl ?_
  refine j_sipush (q := 44) (v := (256 : Int32)) hx (dc kX6_init_0 19 rfl) (by decide) rfl ?_
  refine j_newarray50 (q := 46) hx (dc kX6_init_0 20 rfl) ac_I (by decide) (by decide) (by decide) rfl (fun v14 hvv14 h13 => ?_)
  refine w_sR (q := 49) hx (dc kX6_init_0 21 rfl) ff_X6_4 lk_X6_25 (Or.inr ⟨hnm, rfl, rfl, lt_X6_25⟩) rfl (fun h15 => ?_)
  exact r_vW hx hR (dc kX6_init_0 22 rfl)

set_option maxHeartbeats 4000000 in
set_option maxRecDepth 100000 in
theorem sX6_clear (l : Launch) (w : Wd) (x0 : Nat) (h : Hp) (u : Hp) (hK : mX6_clear x0 h = some u) : M1 l w mi_X6_clear 2 [vR w x0] h u (none) := by
  refine M1.of (own := RX6) (T := fun _ r => r = u) hK (by decide +kernel) rfl (by first | (simp only [lg_lenR, lg_lenI, lg_lenL, lg_len0]; decide) | decide) (fun x hx hnl hhf hl hw hret hnm hQ h0e => ⟨?_, rfl⟩)
  subst hw
  subst hl
  have hR : Rt x h u (none) (none) := ⟨h0e, hhf, hret, hQ⟩
  have hn : ∀ i, i < 1 → i < x.2.2.1.1.1 := fun i hi => by rw [hnl]; exact hi
  have e0 : lv_args 0 [vR x.2.2.2 x0] = [(0, vR x.2.2.2 x0)] := by simp only [lv_argsR, lv_argsI, lv_argsL, lv_args0]
  rw [e0]
  unfold mX6_clear
  refine J.ckd fun hck => ?_
  refine j_aload_n (q := 1) hx (dc kX6_clear_0 0 rfl) rfl 0 rfl rfl ?_
  refine j_iconst (q := 2) (v := (0 : Int32)) hx (dc kX6_clear_0 1 rfl) (by decide) rfl ?_
  refine w_sI (q := 5) hx (dc kX6_clear_0 2 rfl) ff_X6_5 rfl lk_X6_28 (Or.inl rfl) rfl (fun h1 => ?_)
  refine j_aload_n (q := 6) hx (dc kX6_clear_0 3 rfl) rfl 0 rfl rfl ?_
  refine w_gR (q := 9) hx (dc kX6_clear_0 4 rfl) ff_X6_4 lk_X6_25 rfl (fun v2 => ?_)
  refine w_cSVW (q := 12) (As := [vR x.2.2.2 v2]) (st := []) hx (dc kX6_clear_0 5 rfl) (cI _ my_X11_wipe lm_X6_32 (by decide)) st_X11_wipe rfl (fun u hu => sX11_wipe _ _ _ _ _ hu) (Nat.zero_le _) rfl (fun h4 => ?_)
  exact r_vW hx hR (dc kX6_clear_0 6 rfl)

set_option maxHeartbeats 4000000 in
set_option maxRecDepth 100000 in
theorem sX6_enter (l : Launch) (w : Wd) (x0 : Nat) (x1 : Int32) (x2 : Int32) (x3 : Int32) (h : Hp) (u : Hp) (hK : mX6_enter x0 x1 x2 x3 h = some u) : M1 l w mi_X6_enter 2 [vR w x0, .int x1, .int x2, .int x3] h u (none) := by
  refine M1.of (own := RX6) (T := fun _ r => r = u) hK (by decide +kernel) rfl (by first | (simp only [lg_lenR, lg_lenI, lg_lenL, lg_len0]; decide) | decide) (fun x hx hnl hhf hl hw hret hnm hQ h0e => ⟨?_, rfl⟩)
  subst hw
  subst hl
  have hR : Rt x h u (none) (none) := ⟨h0e, hhf, hret, hQ⟩
  have hn : ∀ i, i < 5 → i < x.2.2.1.1.1 := fun i hi => by rw [hnl]; exact hi
  have e0 : lv_args 0 [vR x.2.2.2 x0, .int x1, .int x2, .int x3] = [(0, vR x.2.2.2 x0), (1, .int x1), (2, .int x2), (3, .int x3)] := by simp only [lv_argsR, lv_argsI, lv_argsL, lv_args0]
  rw [e0]
  have hb85 : ∀ (x0 : Nat) (x3 : Int32) (x4 : Int32) (h : Hp), J x 85 [(0, vR x.2.2.2 x0), (3, .int x3), (4, .int x4)] [] h (mX6_enter_b85 x0 x3 x4 h) (fun r => r = u) := by
    intro x0 x3 x4 h
    unfold mX6_enter_b85
    refine j_aload_n (q := 86) hx (dc kX6_enter_0 44 rfl) rfl 0 rfl rfl ?_
    refine w_gR (q := 89) hx (dc kX6_enter_0 45 rfl) ff_X6_1 lk_X6_15 rfl (fun v4 => ?_)
    refine j_iload (q := 91) hx (dc kX6_enter_0 46 rfl) 2 rfl rfl ?_
    refine j_aload_n (q := 92) hx (dc kX6_enter_0 47 rfl) rfl 0 rfl rfl ?_
    refine w_gR (q := 95) hx (dc kX6_enter_0 48 rfl) ff_X6_1 lk_X6_15 rfl (fun v5 => ?_)
    refine j_iload (q := 97) hx (dc kX6_enter_0 49 rfl) 2 rfl rfl ?_
    refine w_cSIR (q := 100) (As := [vR x.2.2.2 v5, .int x4]) (st := [.int x4, vR x.2.2.2 v4]) hx (dc kX6_enter_0 50 rfl) (cI _ my_X11_at lm_X6_36 (by decide)) st_X11_at rfl (fun u hu => sX11_at _ _ _ _ _ _ hu) (sum_le (sum_I (sum_R sum_nil)) (by decide)) rfl (fun v6 => ?_)
    refine j_iconst (q := 101) (v := (1 : Int32)) hx (dc kX6_enter_0 51 rfl) (by decide) rfl ?_
    refine j_iadd (q := 102) hx (dc kX6_enter_0 52 rfl) rfl ?_
    refine w_cSVW (q := 105) (As := [vR x.2.2.2 v4, .int x4, .int (v6 + (1 : Int32))]) (st := []) hx (dc kX6_enter_0 53 rfl) (cI _ my_X11_put lm_X6_40 (by decide)) st_X11_put rfl (fun u hu => sX11_put _ _ _ _ _ _ _ hu) (Nat.zero_le _) rfl (fun h9 => ?_)
    refine j_aload_n (q := 106) hx (dc kX6_enter_0 54 rfl) rfl 0 rfl rfl ?_
    refine w_gR (q := 109) hx (dc kX6_enter_0 55 rfl) ff_X6_3 lk_X6_21 rfl (fun v10 => ?_)
    refine j_iload (q := 111) hx (dc kX6_enter_0 56 rfl) 2 rfl rfl ?_
    refine j_aload_n (q := 112) hx (dc kX6_enter_0 57 rfl) rfl 0 rfl rfl ?_
    refine w_gR (q := 115) hx (dc kX6_enter_0 58 rfl) ff_X6_3 lk_X6_21 rfl (fun v11 => ?_)
    refine j_iload (q := 117) hx (dc kX6_enter_0 59 rfl) 2 rfl rfl ?_
    refine w_cSJR (q := 120) (As := [vR x.2.2.2 v11, .int x4]) (st := [.int x4, vR x.2.2.2 v10]) hx (dc kX6_enter_0 60 rfl) (cI _ my_X11_longAt lm_X6_48 (by decide)) st_X11_longAt rfl (fun u hu => sX11_longAt _ _ _ _ _ _ hu) (sum_le (sum_I (sum_R sum_nil)) (by decide)) rfl (fun v12 => ?_)
    refine j_iload_n (q := 121) hx (dc kX6_enter_0 61 rfl) rfl 1 rfl rfl ?_
    refine j_i2l (q := 122) hx (dc kX6_enter_0 62 rfl) rfl ?_
    refine j_ladd (q := 123) hx (dc kX6_enter_0 63 rfl) rfl ?_
    refine w_cSVW (q := 126) (As := [vR x.2.2.2 v10, .int x4, .long (v12 + x3.toInt64)]) (st := []) hx (dc kX6_enter_1 0 rfl) (cI _ my_X11_putLong lm_X6_44 (by decide)) st_X11_putLong rfl (fun u hu => sX11_putLong _ _ _ _ _ _ _ hu) (Nat.zero_le _) rfl (fun h15 => ?_)
    exact r_vW hx hR (dc kX6_enter_1 1 rfl)
  unfold mX6_enter
  refine J.ckd fun hck => ?_
  refine j_aload_n (q := 1) hx (dc kX6_enter_0 0 rfl) rfl 0 rfl rfl ?_
  refine w_gR (q := 4) hx (dc kX6_enter_0 1 rfl) ff_X6_4 lk_X6_25 rfl (fun v1 => ?_)
  refine j_iload_n (q := 5) hx (dc kX6_enter_0 2 rfl) rfl 1 rfl rfl ?_
  refine w_cSIR (q := 8) (As := [vR x.2.2.2 v1, .int x1]) (st := []) hx (dc kX6_enter_0 3 rfl) (cI _ my_X11_at lm_X6_36 (by decide)) st_X11_at rfl (fun u hu => sX11_at _ _ _ _ _ _ hu) (Nat.zero_le _) rfl (fun v2 => ?_)
  refine j_iconst (q := 9) (v := (1 : Int32)) hx (dc kX6_enter_0 4 rfl) (by decide) rfl ?_
  refine j_isub (q := 10) hx (dc kX6_enter_0 5 rfl) rfl ?_
  refine j_istore (q := 12) (i := 4) (l2 := [(0, vR x.2.2.2 x0), (1, .int x1), (2, .int x2), (3, .int x3)]) hx (dc kX6_enter_0 6 rfl) (hn 4 (by decide)) [0, 1, 2, 3] rfl ⟨⟨show (0 : Nat) ≠ 4 by decide, Or.inl (show (0 : Nat) + 1 ≠ 4 by decide)⟩, ⟨⟨show (1 : Nat) ≠ 4 by decide, Or.inl (show (1 : Nat) + 1 ≠ 4 by decide)⟩, ⟨⟨show (2 : Nat) ≠ 4 by decide, Or.inl (show (2 : Nat) + 1 ≠ 4 by decide)⟩, ⟨⟨show (3 : Nat) ≠ 4 by decide, Or.inr rfl⟩, trivial⟩⟩⟩⟩ rfl ?_
  refine j_iload (q := 14) hx (dc kX6_enter_0 7 rfl) 0 rfl rfl ?_
  refine j_if_geS (q := 17) (tgt := 85) hx (dc kX6_enter_0 8 rfl) (by decide) rfl ?_ ?_
  · exact j_sub [1, 4, 0] rfl (hb85 x0 x3 (v2 - (1 : Int32)) h)
  · refine j_aload_n (q := 18) hx (dc kX6_enter_0 9 rfl) rfl 1 rfl rfl ?_
    refine w_gI (q := 21) hx (dc kX6_enter_0 10 rfl) ff_X6_5 lk_X6_28 rfl (fun v16 => ?_)
    refine j_istore (q := 23) (i := 4) (l2 := [(0, vR x.2.2.2 x0), (1, .int x1), (2, .int x2), (3, .int x3)]) hx (dc kX6_enter_0 11 rfl) (hn 4 (by decide)) [1, 2, 3, 4] rfl ⟨⟨show (0 : Nat) ≠ 4 by decide, Or.inl (show (0 : Nat) + 1 ≠ 4 by decide)⟩, ⟨⟨show (1 : Nat) ≠ 4 by decide, Or.inl (show (1 : Nat) + 1 ≠ 4 by decide)⟩, ⟨⟨show (2 : Nat) ≠ 4 by decide, Or.inl (show (2 : Nat) + 1 ≠ 4 by decide)⟩, ⟨⟨show (3 : Nat) ≠ 4 by decide, Or.inr rfl⟩, trivial⟩⟩⟩⟩ rfl ?_
    refine j_aload_n (q := 24) hx (dc kX6_enter_0 12 rfl) rfl 1 rfl rfl ?_
    refine j_dup (q := 25) hx (dc kX6_enter_0 13 rfl) (vR_cat _ _) rfl ?_
    refine w_gI (q := 28) hx (dc kX6_enter_0 14 rfl) ff_X6_5 lk_X6_28 rfl (fun v17 => ?_)
    refine j_iconst (q := 29) (v := (1 : Int32)) hx (dc kX6_enter_0 15 rfl) (by decide) rfl ?_
    refine j_iadd (q := 30) hx (dc kX6_enter_0 16 rfl) rfl ?_
    refine w_sI (q := 33) hx (dc kX6_enter_0 17 rfl) ff_X6_5 rfl lk_X6_28 (Or.inl rfl) rfl (fun h18 => ?_)
    refine j_aload_n (q := 34) hx (dc kX6_enter_0 18 rfl) rfl 1 rfl rfl ?_
    refine w_gR (q := 37) hx (dc kX6_enter_0 19 rfl) ff_X6_4 lk_X6_25 rfl (fun v19 => ?_)
    refine j_iload_n (q := 38) hx (dc kX6_enter_0 20 rfl) rfl 2 rfl rfl ?_
    refine j_aload_n (q := 39) hx (dc kX6_enter_0 21 rfl) rfl 1 rfl rfl ?_
    refine w_gI (q := 42) hx (dc kX6_enter_0 22 rfl) ff_X6_5 lk_X6_28 rfl (fun v20 => ?_)
    refine w_cSVW (q := 45) (As := [vR x.2.2.2 v19, .int x1, .int v20]) (st := []) hx (dc kX6_enter_0 23 rfl) (cI _ my_X11_put lm_X6_40 (by decide)) st_X11_put rfl (fun u hu => sX11_put _ _ _ _ _ _ _ hu) (Nat.zero_le _) rfl (fun h22 => ?_)
    refine j_aload_n (q := 46) hx (dc kX6_enter_0 24 rfl) rfl 1 rfl rfl ?_
    refine w_gR (q := 49) hx (dc kX6_enter_0 25 rfl) ff_X6_0 lk_X6_9 rfl (fun v23 => ?_)
    refine j_iload (q := 51) hx (dc kX6_enter_0 26 rfl) 0 rfl rfl ?_
    refine j_iload_n (q := 52) hx (dc kX6_enter_0 27 rfl) rfl 2 rfl rfl ?_
    refine w_cSVW (q := 55) (As := [vR x.2.2.2 v23, .int v16, .int x1]) (st := []) hx (dc kX6_enter_0 28 rfl) (cI _ my_X11_put lm_X6_40 (by decide)) st_X11_put rfl (fun u hu => sX11_put _ _ _ _ _ _ _ hu) (Nat.zero_le _) rfl (fun h25 => ?_)
    refine j_aload_n (q := 56) hx (dc kX6_enter_0 29 rfl) rfl 1 rfl rfl ?_
    refine w_gR (q := 59) hx (dc kX6_enter_0 30 rfl) ff_X6_2 lk_X6_18 rfl (fun v26 => ?_)
    refine j_iload (q := 61) hx (dc kX6_enter_0 31 rfl) 0 rfl rfl ?_
    refine j_iload_n (q := 62) hx (dc kX6_enter_0 32 rfl) rfl 3 rfl rfl ?_
    refine w_cSVW (q := 65) (As := [vR x.2.2.2 v26, .int v16, .int x2]) (st := []) hx (dc kX6_enter_0 33 rfl) (cI _ my_X11_put lm_X6_40 (by decide)) st_X11_put rfl (fun u hu => sX11_put _ _ _ _ _ _ _ hu) (Nat.zero_le _) rfl (fun h28 => ?_)
    refine j_aload_n (q := 66) hx (dc kX6_enter_0 34 rfl) rfl 1 rfl rfl ?_
    refine w_gR (q := 69) hx (dc kX6_enter_0 35 rfl) ff_X6_1 lk_X6_15 rfl (fun v29 => ?_)
    refine j_iload (q := 71) hx (dc kX6_enter_0 36 rfl) 0 rfl rfl ?_
    refine j_iconst (q := 72) (v := (0 : Int32)) hx (dc kX6_enter_0 37 rfl) (by decide) rfl ?_
    refine w_cSVW (q := 75) (As := [vR x.2.2.2 v29, .int v16, .int (0 : Int32)]) (st := []) hx (dc kX6_enter_0 38 rfl) (cI _ my_X11_put lm_X6_40 (by decide)) st_X11_put rfl (fun u hu => sX11_put _ _ _ _ _ _ _ hu) (Nat.zero_le _) rfl (fun h31 => ?_)
    refine j_aload_n (q := 76) hx (dc kX6_enter_0 39 rfl) rfl 1 rfl rfl ?_
    refine w_gR (q := 79) hx (dc kX6_enter_0 40 rfl) ff_X6_3 lk_X6_21 rfl (fun v32 => ?_)
    refine j_iload (q := 81) hx (dc kX6_enter_0 41 rfl) 0 rfl rfl ?_
    refine j_lconst (q := 82) (v := (0 : Int64)) hx (dc kX6_enter_0 42 rfl) (by decide) rfl ?_
    refine w_cSVW (q := 85) (As := [vR x.2.2.2 v32, .int v16, .long (0 : Int64)]) (st := []) hx (dc kX6_enter_0 43 rfl) (cI _ my_X11_putLong lm_X6_44 (by decide)) st_X11_putLong rfl (fun u hu => sX11_putLong _ _ _ _ _ _ _ hu) (Nat.zero_le _) rfl (fun h34 => ?_)
    exact j_sub [1, 4, 0] rfl (hb85 x0 x3 v16 h34)

set_option maxHeartbeats 4000000 in
set_option maxRecDepth 100000 in
theorem sX7_init {x0 : Nat} (hvx0 : x0 ≠ 0) (l : Launch) (w : Wd) (h : Hp) (u : Hp) (hK : mX7_init x0 h = some u) : M1 l w mi_X7_init 1 [vR w x0] h u (none) := by
  refine M1.of (own := RX7) (T := fun _ r => r = u) hK (by decide +kernel) rfl (by first | (simp only [lg_lenR, lg_lenI, lg_lenL, lg_len0]; decide) | decide) (fun x hx hnl hhf hl hw hret hnm hQ h0e => ⟨?_, rfl⟩)
  subst hw
  subst hl
  have hR : Rt x h u (none) (none) := ⟨h0e, hhf, hret, hQ⟩
  have hn : ∀ i, i < 1 → i < x.2.2.1.1.1 := fun i hi => by rw [hnl]; exact hi
  have e0 : lv_args 0 [vR x.2.2.2 x0] = [(0, vR x.2.2.2 x0)] := by simp only [lv_argsR, lv_argsI, lv_argsL, lv_args0]
  rw [e0]
  unfold mX7_init
  refine j_aload_n (q := 1) hx (dc kX7_init_0 0 rfl) rfl 0 rfl rfl ?_
  refine j_obj (q := 4) hx (dc kX7_init_0 1 rfl) lo_X7_3 hvx0 (by decide) (Nat.zero_le _) rfl ?_
  refine j_aload_n (q := 5) hx (dc kX7_init_0 2 rfl) rfl 0 rfl rfl ?_
  refine j_sipush (q := 8) (v := (480 : Int32)) hx (dc kX7_init_0 3 rfl) (by decide) rfl ?_
  refine j_newarray50 (q := 10) hx (dc kX7_init_0 4 rfl) ac_I (by decide) (by decide) (by decide) rfl (fun v2 hvv2 h1 => ?_)
  refine w_sR (q := 13) hx (dc kX7_init_0 5 rfl) ff_X7_0 lk_X7_9 (Or.inr ⟨hnm, rfl, rfl, lt_X7_9⟩) rfl (fun h3 => ?_)
  exact r_vW hx hR (dc kX7_init_0 6 rfl)

set_option maxHeartbeats 4000000 in
set_option maxRecDepth 100000 in
theorem sX7_take (l : Launch) (w : Wd) (x0 : Nat) (x1 : Int32) (h : Hp) (u : (Int32 × Hp)) (hK : mX7_take x0 x1 h = some u) : M1 l w mi_X7_take 2 [vR w x0, .int x1] h u.2 (some (.int u.1)) := by
  refine M1.of (own := RX7) (T := fun _ r => r = u) hK (by decide +kernel) rfl (by first | (simp only [lg_lenR, lg_lenI, lg_lenL, lg_len0]; decide) | decide) (fun x hx hnl hhf hl hw hret hnm hQ h0e => ⟨?_, rfl⟩)
  subst hw
  subst hl
  have hR : Rt x h u.2 (some (.int u.1)) ((some .boolean)) := ⟨h0e, hhf, hret, hQ⟩
  have hn : ∀ i, i < 3 → i < x.2.2.1.1.1 := fun i hi => by rw [hnl]; exact hi
  have e0 : lv_args 0 [vR x.2.2.2 x0, .int x1] = [(0, vR x.2.2.2 x0), (1, .int x1)] := by simp only [lv_argsR, lv_argsI, lv_argsL, lv_args0]
  rw [e0]
  have hb16 : ∀ (x0 : Nat) (x1 : Int32) (x2 : Int32) (h : Hp), J x 16 [(0, vR x.2.2.2 x0), (1, .int x1), (2, .int x2)] [] h (mX7_take_l16 x0 x1 x2 h) (fun r => r = u) := by
    intro x0 x1 x2 h
    have hB : ∀ (x2 : Int32) (h : Hp), J x 16 [(0, vR x.2.2.2 x0), (1, .int x1), (2, .int x2)] [] h (mX7_take_l16f x0 x1 x2 h) (TLo (S := (Int32 × Hp)) x 16 (fun s => [(0, vR x.2.2.2 x0), (1, .int x1), (2, .int s.1)]) [] (fun s => s.2) (fun r => r = u)) := by
      intro x2 h
      unfold mX7_take_l16f
      refine j_iload_n (q := 17) hx (dc kX7_take_0 10 rfl) rfl 2 rfl rfl ?_
      refine j_iconst (q := 18) (v := (4 : Int32)) hx (dc kX7_take_0 11 rfl) (by decide) rfl ?_
      refine j_icmp_geS (q := 21) (tgt := 53) hx (dc kX7_take_0 12 rfl) (by decide) rfl ?_ ?_
      · refine j_exit ?_
        refine j_aload_n (q := 54) hx (dc kX7_take_0 31 rfl) rfl 0 rfl rfl ?_
        refine j_dup (q := 55) hx (dc kX7_take_0 32 rfl) (vR_cat _ _) rfl ?_
        refine w_gI (q := 58) hx (dc kX7_take_0 33 rfl) ff_X7_1 lk_X7_15 rfl (fun v2 => ?_)
        refine j_iconst (q := 59) (v := (4 : Int32)) hx (dc kX7_take_0 34 rfl) (by decide) rfl ?_
        refine j_iadd (q := 60) hx (dc kX7_take_0 35 rfl) rfl ?_
        refine w_sI (q := 63) hx (dc kX7_take_0 36 rfl) ff_X7_1 rfl lk_X7_15 (Or.inl rfl) rfl (fun h3 => ?_)
        refine j_iconst (q := 64) (v := (1 : Int32)) hx (dc kX7_take_0 37 rfl) (by decide) rfl ?_
        exact r_cW hx (Or.inr rfl) hR (dc kX7_take_0 38 rfl)
      · refine j_aload_n (q := 22) hx (dc kX7_take_0 13 rfl) rfl 0 rfl rfl ?_
        refine w_gR (q := 25) hx (dc kX7_take_0 14 rfl) ff_X7_0 lk_X7_9 rfl (fun v4 => ?_)
        refine j_aload_n (q := 26) hx (dc kX7_take_0 15 rfl) rfl 0 rfl rfl ?_
        refine w_gI (q := 29) hx (dc kX7_take_0 16 rfl) ff_X7_1 lk_X7_15 rfl (fun v5 => ?_)
        refine j_iload_n (q := 30) hx (dc kX7_take_0 17 rfl) rfl 2 rfl rfl ?_
        refine j_iadd (q := 31) hx (dc kX7_take_0 18 rfl) rfl ?_
        refine j_iload_n (q := 32) hx (dc kX7_take_0 19 rfl) rfl 1 rfl rfl ?_
        refine j_bipush (q := 34) (v := (24 : Int32)) hx (dc kX7_take_0 20 rfl) (by decide) rfl ?_
        refine j_bipush (q := 36) (v := (8 : Int32)) hx (dc kX7_take_0 21 rfl) (by decide) rfl ?_
        refine j_iload_n (q := 37) hx (dc kX7_take_0 22 rfl) rfl 2 rfl rfl ?_
        refine j_imul (q := 38) hx (dc kX7_take_0 23 rfl) rfl ?_
        refine j_isub (q := 39) hx (dc kX7_take_0 24 rfl) rfl ?_
        refine j_iushr (q := 40) hx (dc kX7_take_0 25 rfl) rfl ?_
        refine j_sipush (q := 43) (v := (255 : Int32)) hx (dc kX7_take_0 26 rfl) (by decide) rfl ?_
        refine j_iand (q := 44) hx (dc kX7_take_0 27 rfl) rfl ?_
        refine w_cSVW (q := 47) (As := [vR x.2.2.2 v4, .int (v5 + x2), .int ((ushrI x1 ((24 : Int32) - ((8 : Int32) * x2))) &&& (255 : Int32))]) (st := []) hx (dc kX7_take_0 28 rfl) (cI _ my_X11_put lm_X7_19 (by decide)) st_X11_put rfl (fun u hu => sX11_put _ _ _ _ _ _ _ hu) (Nat.zero_le _) rfl (fun h7 => ?_)
        refine j_iinc (q := 50) (l2 := [(0, vR x.2.2.2 x0), (1, .int x1)]) hx (dc kX7_take_0 29 rfl) 2 rfl (v := (1 : Int32)) (by decide) (hn 2 (by decide)) [0, 1] rfl ⟨⟨show (0 : Nat) ≠ 2 by decide, Or.inl (show (0 : Nat) + 1 ≠ 2 by decide)⟩, ⟨⟨show (1 : Nat) ≠ 2 by decide, Or.inr rfl⟩, trivial⟩⟩ rfl ?_
        refine j_goto (q := 16) hx (dc kX7_take_0 30 rfl) (by decide) ?_
        exact j_back [1, 2, 0] ((x2 + (1 : Int32)), h7) rfl rfl
    exact j_loop (S := (Int32 × Hp)) (lvf := fun s => [(0, vR x.2.2.2 x0), (1, .int x1), (2, .int s.1)]) (hpf := fun s => s.2) (f := (fun s : (Int32 × Hp) => mX7_take_l16f x0 x1 s.1 s.2)) (fun s => hB s.1 s.2) (x2, h)
  unfold mX7_take
  refine J.ckd fun hck => ?_
  refine j_aload_n (q := 1) hx (dc kX7_take_0 0 rfl) rfl 0 rfl rfl ?_
  refine w_gI (q := 4) hx (dc kX7_take_0 1 rfl) ff_X7_1 lk_X7_15 rfl (fun v1 => ?_)
  refine j_iconst (q := 5) (v := (4 : Int32)) hx (dc kX7_take_0 2 rfl) (by decide) rfl ?_
  refine j_iadd (q := 6) hx (dc kX7_take_0 3 rfl) rfl ?_
  refine j_sipush (q := 9) (v := (480 : Int32)) hx (dc kX7_take_0 4 rfl) (by decide) rfl ?_
  refine j_icmp_leS (q := 12) (tgt := 14) hx (dc kX7_take_0 5 rfl) (by decide) rfl ?_ ?_
  · refine j_iconst (q := 15) (v := (0 : Int32)) hx (dc kX7_take_0 8 rfl) (by decide) rfl ?_
    refine j_istore_n (q := 16) (i := 2) (l2 := [(0, vR x.2.2.2 x0), (1, .int x1)]) hx (dc kX7_take_0 9 rfl) rfl (hn 2 (by decide)) [0, 1] rfl ⟨⟨show (0 : Nat) ≠ 2 by decide, Or.inl (show (0 : Nat) + 1 ≠ 2 by decide)⟩, ⟨⟨show (1 : Nat) ≠ 2 by decide, Or.inr rfl⟩, trivial⟩⟩ rfl ?_
    exact j_sub [1, 2, 0] rfl (hb16 x0 x1 (0 : Int32) h)
  · refine j_iconst (q := 13) (v := (0 : Int32)) hx (dc kX7_take_0 6 rfl) (by decide) rfl ?_
    exact r_cW hx (Or.inl rfl) hR (dc kX7_take_0 7 rfl)

set_option maxHeartbeats 4000000 in
set_option maxRecDepth 100000 in
theorem sX7_cut (l : Launch) (w : Wd) (x0 : Nat) (x1 : Int32) (h : Hp) (u : (Int32 × Hp)) (hK : mX7_cut x0 x1 h = some u) : M1 l w mi_X7_cut 1 [vR w x0, .int x1] h u.2 (some (.int u.1)) := by
  refine M1.of (own := RX7) (T := fun _ r => r = u) hK (by decide +kernel) rfl (by first | (simp only [lg_lenR, lg_lenI, lg_lenL, lg_len0]; decide) | decide) (fun x hx hnl hhf hl hw hret hnm hQ h0e => ⟨?_, rfl⟩)
  subst hw
  subst hl
  have hR : Rt x h u.2 (some (.int u.1)) ((some .boolean)) := ⟨h0e, hhf, hret, hQ⟩
  have hn : ∀ i, i < 2 → i < x.2.2.1.1.1 := fun i hi => by rw [hnl]; exact hi
  have e0 : lv_args 0 [vR x.2.2.2 x0, .int x1] = [(0, vR x.2.2.2 x0), (1, .int x1)] := by simp only [lv_argsR, lv_argsI, lv_argsL, lv_args0]
  rw [e0]
  unfold mX7_cut
  refine J.ckd fun hck => ?_
  refine j_iload_n (q := 1) hx (dc kX7_cut_0 0 rfl) rfl 1 rfl rfl ?_
  refine j_if_lt (q := 4) (tgt := 12) hx (dc kX7_cut_0 1 rfl) (by decide) Iff.rfl rfl ?_ ?_
  · refine j_iconst (q := 13) (v := (0 : Int32)) hx (dc kX7_cut_0 6 rfl) (by decide) rfl ?_
    exact r_cW hx (Or.inl rfl) hR (dc kX7_cut_0 7 rfl)
  · refine j_iload_n (q := 5) hx (dc kX7_cut_0 2 rfl) rfl 1 rfl rfl ?_
    refine j_aload_n (q := 6) hx (dc kX7_cut_0 3 rfl) rfl 0 rfl rfl ?_
    refine w_gI (q := 9) hx (dc kX7_cut_0 4 rfl) ff_X7_1 lk_X7_15 rfl (fun v1 => ?_)
    refine j_icmp_leS (q := 12) (tgt := 14) hx (dc kX7_cut_0 5 rfl) (by decide) rfl ?_ ?_
    · refine j_aload_n (q := 15) hx (dc kX7_cut_0 8 rfl) rfl 0 rfl rfl ?_
      refine j_iload_n (q := 16) hx (dc kX7_cut_0 9 rfl) rfl 1 rfl rfl ?_
      refine w_sI (q := 19) hx (dc kX7_cut_0 10 rfl) ff_X7_1 rfl lk_X7_15 (Or.inl rfl) rfl (fun h2 => ?_)
      refine j_iconst (q := 20) (v := (1 : Int32)) hx (dc kX7_cut_0 11 rfl) (by decide) rfl ?_
      exact r_cW hx (Or.inr rfl) hR (dc kX7_cut_0 12 rfl)
    · refine j_iconst (q := 13) (v := (0 : Int32)) hx (dc kX7_cut_0 6 rfl) (by decide) rfl ?_
      exact r_cW hx (Or.inl rfl) hR (dc kX7_cut_0 7 rfl)

set_option maxHeartbeats 4000000 in
set_option maxRecDepth 100000 in
theorem sX7_read (l : Launch) (w : Wd) (x0 : Nat) (x1 : Int32) (h : Hp) (u : Int32) (hK : mX7_read x0 x1 h = some u) : M1 l w mi_X7_read 2 [vR w x0, .int x1] h h (some (.int u)) := by
  refine M1.of (own := RX7) (T := fun _ r => r = u) hK (by decide +kernel) rfl (by first | (simp only [lg_lenR, lg_lenI, lg_lenL, lg_len0]; decide) | decide) (fun x hx hnl hhf hl hw hret hnm hQ h0e => ⟨?_, rfl⟩)
  subst hw
  subst hl
  have hR : Rt x h h (some (.int u)) ((some .int)) := ⟨h0e, hhf, hret, hQ⟩
  have hn : ∀ i, i < 2 → i < x.2.2.1.1.1 := fun i hi => by rw [hnl]; exact hi
  have e0 : lv_args 0 [vR x.2.2.2 x0, .int x1] = [(0, vR x.2.2.2 x0), (1, .int x1)] := by simp only [lv_argsR, lv_argsI, lv_argsL, lv_args0]
  rw [e0]
  unfold mX7_read
  refine J.ckd fun hck => ?_
  refine j_iload_n (q := 1) hx (dc kX7_read_0 0 rfl) rfl 1 rfl rfl ?_
  refine j_aload_n (q := 2) hx (dc kX7_read_0 1 rfl) rfl 0 rfl rfl ?_
  refine w_gI (q := 5) hx (dc kX7_read_0 2 rfl) ff_X7_1 lk_X7_15 rfl (fun v1 => ?_)
  refine j_icmp_geS (q := 8) (tgt := 19) hx (dc kX7_read_0 3 rfl) (by decide) rfl ?_ ?_
  · refine j_iconst (q := 20) (v := (0 : Int32)) hx (dc kX7_read_0 9 rfl) (by decide) rfl ?_
    exact r_iR hx hR (dc kX7_read_0 10 rfl)
  · refine j_aload_n (q := 9) hx (dc kX7_read_0 4 rfl) rfl 0 rfl rfl ?_
    refine w_gR (q := 12) hx (dc kX7_read_0 5 rfl) ff_X7_0 lk_X7_9 rfl (fun v2 => ?_)
    refine j_iload_n (q := 13) hx (dc kX7_read_0 6 rfl) rfl 1 rfl rfl ?_
    refine w_cSIR (q := 16) (As := [vR x.2.2.2 v2, .int x1]) (st := []) hx (dc kX7_read_0 7 rfl) (cI _ my_X11_at lm_X7_23 (by decide)) st_X11_at rfl (fun u hu => sX11_at _ _ _ _ _ _ hu) (Nat.zero_le _) rfl (fun v3 => ?_)
    refine j_goto (q := 20) hx (dc kX7_read_0 8 rfl) (by decide) ?_
    exact r_iR hx hR (dc kX7_read_0 10 rfl)

set_option maxHeartbeats 4000000 in
set_option maxRecDepth 100000 in
theorem sJ0_coder_7d493 (l : Launch) (w : Wd) (x0 : Nat) (h : Hp) (u : Int32) (hK : mJ0_coder_7d493 x0 h = some u) : M1 l w mi_J0_coder_7d493 1 [vR w x0] h h (some (.int u)) := by
  refine M1.of (own := RJ0) (T := fun _ r => r = u) hK (by decide +kernel) rfl (by first | (simp only [lg_lenR, lg_lenI, lg_lenL, lg_len0]; decide) | decide) (fun x hx hnl hhf hl hw hret hnm hQ h0e => ⟨?_, rfl⟩)
  subst hw
  subst hl
  have hR : Rt x h h (some (.int u)) ((some .byte)) := ⟨h0e, hhf, hret, hQ⟩
  have hn : ∀ i, i < 1 → i < x.2.2.1.1.1 := fun i hi => by rw [hnl]; exact hi
  have e0 : lv_args 0 [vR x.2.2.2 x0] = [(0, vR x.2.2.2 x0)] := by simp only [lv_argsR, lv_argsI, lv_argsL, lv_args0]
  rw [e0]
  unfold mJ0_coder_7d493
  refine J.ckd fun hck => ?_
  refine j_gsC (q := 3) hx (dc kJ0_coder_7d493_0 0 rfl) lsf_J0_38 rfl ?_
  refine j_if_eq (q := 6) (tgt := 13) hx (dc kJ0_coder_7d493_0 1 rfl) (by decide) Iff.rfl rfl ?_ ?_
  · refine j_iconst (q := 14) (v := (1 : Int32)) hx (dc kJ0_coder_7d493_0 5 rfl) (by decide) rfl ?_
    exact r_nR hx hR (dc kJ0_coder_7d493_0 6 rfl)
  · refine j_aload_n (q := 7) hx (dc kJ0_coder_7d493_0 2 rfl) rfl 0 rfl rfl ?_
    refine j_sC (q := 10) hx lsf_J0_15 (dc kJ0_coder_7d493_0 3 rfl) rfl (fun v1 => ?_)
    refine j_goto (q := 14) hx (dc kJ0_coder_7d493_0 4 rfl) (by decide) ?_
    exact r_nR hx hR (dc kJ0_coder_7d493_0 6 rfl)

set_option maxHeartbeats 4000000 in
set_option maxRecDepth 100000 in
theorem sJ0_length_8abf5 (l : Launch) (w : Wd) (x0 : Nat) (h : Hp) (u : Int32) (hK : mJ0_length_8abf5 x0 h = some u) : M1 l w mi_J0_length_8abf5 2 [vR w x0] h h (some (.int u)) := by
  refine M1.of (own := RJ0) (T := fun _ r => r = u) hK (by decide +kernel) rfl (by first | (simp only [lg_lenR, lg_lenI, lg_lenL, lg_len0]; decide) | decide) (fun x hx hnl hhf hl hw hret hnm hQ h0e => ⟨?_, rfl⟩)
  subst hw
  subst hl
  have hR : Rt x h h (some (.int u)) ((some .int)) := ⟨h0e, hhf, hret, hQ⟩
  have hn : ∀ i, i < 1 → i < x.2.2.1.1.1 := fun i hi => by rw [hnl]; exact hi
  have e0 : lv_args 0 [vR x.2.2.2 x0] = [(0, vR x.2.2.2 x0)] := by simp only [lv_argsR, lv_argsI, lv_argsL, lv_args0]
  rw [e0]
  unfold mJ0_length_8abf5
  refine J.ckd fun hck => ?_
  refine j_aload_n (q := 1) hx (dc kJ0_length_8abf5_0 0 rfl) rfl 0 rfl rfl ?_
  refine j_sV (q := 4) hx lsf_J0_9 (dc kJ0_length_8abf5_0 1 rfl) rfl (fun v1 => ?_)
  refine j_bLn (q := 5) hx (dc kJ0_length_8abf5_0 2 rfl) rfl (fun v2 => ?_)
  refine j_aload_n (q := 6) hx (dc kJ0_length_8abf5_0 3 rfl) rfl 0 rfl rfl ?_
  refine w_cTIR (q := 9) (As := []) (st := [.int v2]) hx (dc kJ0_length_8abf5_0 4 rfl) (cI _ my_J0_coder_7d493 lm_J0_335 (by decide)) vs_J0_coder_7d493 rfl (fun u hu => sJ0_coder_7d493 _ _ _ _ _ hu) rfl (fun e => ite_ne (by unfold mJ0_coder_7d493 at e; exact e)) (sum_le (sum_I sum_nil) (by decide)) rfl (fun v3 => ?_)
  refine j_ishr (q := 10) hx (dc kJ0_length_8abf5_0 5 rfl) rfl ?_
  exact r_iR hx hR (dc kJ0_length_8abf5_0 6 rfl)

set_option maxHeartbeats 4000000 in
set_option maxRecDepth 100000 in
theorem sJ0_isLatin1_aae02 (l : Launch) (w : Wd) (x0 : Nat) (h : Hp) (u : Int32) (hK : mJ0_isLatin1_aae02 x0 h = some u) : M1 l w mi_J0_isLatin1_aae02 1 [vR w x0] h h (some (.int u)) := by
  refine M1.of (own := RJ0) (T := fun _ r => r = u) hK (by decide +kernel) rfl (by first | (simp only [lg_lenR, lg_lenI, lg_lenL, lg_len0]; decide) | decide) (fun x hx hnl hhf hl hw hret hnm hQ h0e => ⟨?_, rfl⟩)
  subst hw
  subst hl
  have hR : Rt x h h (some (.int u)) ((some .boolean)) := ⟨h0e, hhf, hret, hQ⟩
  have hn : ∀ i, i < 1 → i < x.2.2.1.1.1 := fun i hi => by rw [hnl]; exact hi
  have e0 : lv_args 0 [vR x.2.2.2 x0] = [(0, vR x.2.2.2 x0)] := by simp only [lv_argsR, lv_argsI, lv_argsL, lv_args0]
  rw [e0]
  unfold mJ0_isLatin1_aae02
  refine J.ckd fun hck => ?_
  refine j_gsC (q := 3) hx (dc kJ0_isLatin1_aae02_0 0 rfl) lsf_J0_38 rfl ?_
  refine j_if_eq (q := 6) (tgt := 17) hx (dc kJ0_isLatin1_aae02_0 1 rfl) (by decide) Iff.rfl rfl ?_ ?_
  · refine j_iconst (q := 18) (v := (0 : Int32)) hx (dc kJ0_isLatin1_aae02_0 7 rfl) (by decide) rfl ?_
    exact r_cR hx (Or.inl rfl) hR (dc kJ0_isLatin1_aae02_0 8 rfl)
  · refine j_aload_n (q := 7) hx (dc kJ0_isLatin1_aae02_0 2 rfl) rfl 0 rfl rfl ?_
    refine j_sC (q := 10) hx lsf_J0_15 (dc kJ0_isLatin1_aae02_0 3 rfl) rfl (fun v1 => ?_)
    refine j_if_neS (q := 13) (tgt := 17) hx (dc kJ0_isLatin1_aae02_0 4 rfl) (by decide) rfl ?_ ?_
    · refine j_iconst (q := 18) (v := (0 : Int32)) hx (dc kJ0_isLatin1_aae02_0 7 rfl) (by decide) rfl ?_
      exact r_cR hx (Or.inl rfl) hR (dc kJ0_isLatin1_aae02_0 8 rfl)
    · refine j_iconst (q := 14) (v := (1 : Int32)) hx (dc kJ0_isLatin1_aae02_0 5 rfl) (by decide) rfl ?_
      refine j_goto (q := 18) hx (dc kJ0_isLatin1_aae02_0 6 rfl) (by decide) ?_
      exact r_cR hx (Or.inr rfl) hR (dc kJ0_isLatin1_aae02_0 8 rfl)

set_option maxHeartbeats 4000000 in
set_option maxRecDepth 100000 in
theorem sJ3_checkIndex_8e157 (l : Launch) (w : Wd) (x0 : Int32) (x1 : Int32) (x2 : Nat) (h : Hp) (u : Int32) (hK : mJ3_checkIndex_8e157 x0 x1 x2 = some u) : M1 l w mi_J3_checkIndex_8e157 1 [.int x0, .int x1, vR w x2] h h (some (.int u)) := by
  refine M1.of (own := RJ3) (T := fun _ r => r = u) hK (by decide +kernel) rfl (by first | (simp only [lg_lenR, lg_lenI, lg_lenL, lg_len0]; decide) | decide) (fun x hx hnl hhf hl hw hret hnm hQ h0e => ⟨?_, rfl⟩)
  subst hw
  subst hl
  have hR : Rt x h h (some (.int u)) ((some .int)) := ⟨h0e, hhf, hret, hQ⟩
  have hn : ∀ i, i < 3 → i < x.2.2.1.1.1 := fun i hi => by rw [hnl]; exact hi
  have e0 : lv_args 0 [.int x0, .int x1, vR x.2.2.2 x2] = [(0, .int x0), (1, .int x1), (2, vR x.2.2.2 x2)] := by simp only [lv_argsR, lv_argsI, lv_argsL, lv_args0]
  rw [e0]
  have hb9 : ∀ (x0 : Int32) (x1 : Int32) (x2 : Nat), J x 9 [(0, .int x0), (1, .int x1), (2, vR x.2.2.2 x2)] [] h (mJ3_checkIndex_8e157_b9 x0 x1 x2) (fun r => r = u) := by
    intro x0 x1 x2
    unfold mJ3_checkIndex_8e157_b9
    refine j_aload_n (q := 10) hx (dc kJ3_checkIndex_8e157_0 5 rfl) rfl 2 rfl rfl ?_
    refine j_iload_n (q := 11) hx (dc kJ3_checkIndex_8e157_0 6 rfl) rfl 0 rfl rfl ?_
    refine j_iload_n (q := 12) hx (dc kJ3_checkIndex_8e157_0 7 rfl) rfl 1 rfl rfl ?_
    exact j_none
  unfold mJ3_checkIndex_8e157
  refine j_iload_n (q := 1) hx (dc kJ3_checkIndex_8e157_0 0 rfl) rfl 0 rfl rfl ?_
  refine j_if_lt (q := 4) (tgt := 9) hx (dc kJ3_checkIndex_8e157_0 1 rfl) (by decide) Iff.rfl rfl ?_ ?_
  · exact hb9 x0 x1 x2
  · refine j_iload_n (q := 5) hx (dc kJ3_checkIndex_8e157_0 2 rfl) rfl 0 rfl rfl ?_
    refine j_iload_n (q := 6) hx (dc kJ3_checkIndex_8e157_0 3 rfl) rfl 1 rfl rfl ?_
    refine j_icmp_lt (q := 9) (tgt := 16) hx (dc kJ3_checkIndex_8e157_0 4 rfl) (by decide) Iff.rfl rfl ?_ ?_
    · refine j_iload_n (q := 17) hx (dc kJ3_checkIndex_8e157_0 10 rfl) rfl 0 rfl rfl ?_
      exact r_iR hx hR (dc kJ3_checkIndex_8e157_0 11 rfl)
    · exact hb9 x0 x1 x2

set_option maxHeartbeats 4000000 in
set_option maxRecDepth 100000 in
theorem sJ0_checkIndex_df160 (l : Launch) (w : Wd) (x0 : Int32) (x1 : Int32) (h : Hp) (u : Unit) (hK : mJ0_checkIndex_df160 x0 x1 = some u) : M1 l w mi_J0_checkIndex_df160 2 [.int x0, .int x1] h h (none) := by
  refine M1.of (own := RJ0) (T := fun _ r => r = u) hK (by decide +kernel) rfl (by first | (simp only [lg_lenR, lg_lenI, lg_lenL, lg_len0]; decide) | decide) (fun x hx hnl hhf hl hw hret hnm hQ h0e => ⟨?_, rfl⟩)
  subst hw
  subst hl
  have hR : Rt x h h (none) (none) := ⟨h0e, hhf, hret, hQ⟩
  have hn : ∀ i, i < 2 → i < x.2.2.1.1.1 := fun i hi => by rw [hnl]; exact hi
  have e0 : lv_args 0 [.int x0, .int x1] = [(0, .int x0), (1, .int x1)] := by simp only [lv_argsR, lv_argsI, lv_argsL, lv_args0]
  rw [e0]
  unfold mJ0_checkIndex_df160
  refine j_iload_n (q := 1) hx (dc kJ0_checkIndex_df160_0 0 rfl) rfl 0 rfl rfl ?_
  refine j_iload_n (q := 2) hx (dc kJ0_checkIndex_df160_0 1 rfl) rfl 1 rfl rfl ?_
  refine j_gsF (q := 5) hx (dc kJ0_checkIndex_df160_0 2 rfl) lsf_J0_1053 rfl ?_
  refine w_cSIR (q := 8) (As := [.int x0, .int x1, vR x.2.2.2 (hpR (wRo x.2.2.2) 1000 0)]) (st := []) hx (dc kJ0_checkIndex_df160_0 3 rfl) (cI _ my_J3_checkIndex_8e157 lm_J0_1059 (by decide)) st_J3_checkIndex_8e157 rfl (fun u hu => sJ3_checkIndex_8e157 _ _ _ _ _ _ _ hu) (Nat.zero_le _) rfl (fun v1 => ?_)
  refine j_pop (q := 9) hx (dc kJ0_checkIndex_df160_0 4 rfl) rfl rfl ?_
  exact r_vR hx hR (dc kJ0_checkIndex_df160_0 5 rfl)

set_option maxHeartbeats 4000000 in
set_option maxRecDepth 100000 in
theorem sJ1_charAt_3b067 (l : Launch) (w : Wd) (x0 : Nat) (x1 : Int32) (h : Hp) (u : Int32) (hK : mJ1_charAt_3b067 x0 x1 h = some u) : M1 l w mi_J1_charAt_3b067 3 [vR w x0, .int x1] h h (some (.int u)) := by
  refine M1.of (own := RJ1) (T := fun _ r => r = u) hK (by decide +kernel) rfl (by first | (simp only [lg_lenR, lg_lenI, lg_lenL, lg_len0]; decide) | decide) (fun x hx hnl hhf hl hw hret hnm hQ h0e => ⟨?_, rfl⟩)
  subst hw
  subst hl
  have hR : Rt x h h (some (.int u)) ((some .char)) := ⟨h0e, hhf, hret, hQ⟩
  have hn : ∀ i, i < 2 → i < x.2.2.1.1.1 := fun i hi => by rw [hnl]; exact hi
  have e0 : lv_args 0 [vR x.2.2.2 x0, .int x1] = [(0, vR x.2.2.2 x0), (1, .int x1)] := by simp only [lv_argsR, lv_argsI, lv_argsL, lv_args0]
  rw [e0]
  unfold mJ1_charAt_3b067
  refine j_iload_n (q := 1) hx (dc kJ1_charAt_3b067_0 0 rfl) rfl 1 rfl rfl ?_
  refine j_aload_n (q := 2) hx (dc kJ1_charAt_3b067_0 1 rfl) rfl 0 rfl rfl ?_
  refine j_bLn (q := 3) hx (dc kJ1_charAt_3b067_0 2 rfl) rfl (fun v1 => ?_)
  refine w_cSVR (q := 6) (As := [.int x1, .int v1]) (st := []) hx (dc kJ1_charAt_3b067_0 3 rfl) (cI _ my_J0_checkIndex_df160 lm_J1_9 (by decide)) st_J0_checkIndex_df160 rfl (fun u hu => sJ0_checkIndex_df160 _ _ _ _ _ _ hu) (Nat.zero_le _) rfl (fun _ => ?_)
  refine j_aload_n (q := 7) hx (dc kJ1_charAt_3b067_0 4 rfl) rfl 0 rfl rfl ?_
  refine j_iload_n (q := 8) hx (dc kJ1_charAt_3b067_0 5 rfl) rfl 1 rfl rfl ?_
  refine j_bLd (q := 9) hx (dc kJ1_charAt_3b067_0 6 rfl) rfl (fun v4 => ?_)
  refine j_sipush (q := 12) (v := (255 : Int32)) hx (dc kJ1_charAt_3b067_0 7 rfl) (by decide) rfl ?_
  refine j_iand (q := 13) hx (dc kJ1_charAt_3b067_0 8 rfl) rfl ?_
  refine j_i2c (q := 14) hx (dc kJ1_charAt_3b067_0 9 rfl) rfl ?_
  exact r_nR hx hR (dc kJ1_charAt_3b067_0 10 rfl)

set_option maxHeartbeats 4000000 in
set_option maxRecDepth 100000 in
theorem sJ0_charAt_5068e (l : Launch) (w : Wd) (x0 : Nat) (x1 : Int32) (h : Hp) (u : Int32) (hK : mJ0_charAt_5068e x0 x1 h = some u) : M1 l w mi_J0_charAt_5068e 4 [vR w x0, .int x1] h h (some (.int u)) := by
  refine M1.of (own := RJ0) (T := fun _ r => r = u) hK (by decide +kernel) rfl (by first | (simp only [lg_lenR, lg_lenI, lg_lenL, lg_len0]; decide) | decide) (fun x hx hnl hhf hl hw hret hnm hQ h0e => ⟨?_, rfl⟩)
  subst hw
  subst hl
  have hR : Rt x h h (some (.int u)) ((some .char)) := ⟨h0e, hhf, hret, hQ⟩
  have hn : ∀ i, i < 2 → i < x.2.2.1.1.1 := fun i hi => by rw [hnl]; exact hi
  have e0 : lv_args 0 [vR x.2.2.2 x0, .int x1] = [(0, vR x.2.2.2 x0), (1, .int x1)] := by simp only [lv_argsR, lv_argsI, lv_argsL, lv_args0]
  rw [e0]
  unfold mJ0_charAt_5068e
  refine J.ckd fun hck => ?_
  refine j_aload_n (q := 1) hx (dc kJ0_charAt_5068e_0 0 rfl) rfl 0 rfl rfl ?_
  refine w_cTIR (q := 4) (As := []) (st := []) hx (dc kJ0_charAt_5068e_0 1 rfl) (cI _ my_J0_isLatin1_aae02 lm_J0_492 (by decide)) vs_J0_isLatin1_aae02 rfl (fun u hu => sJ0_isLatin1_aae02 _ _ _ _ _ hu) rfl (fun e => ite_ne (by unfold mJ0_isLatin1_aae02 at e; exact e)) (Nat.zero_le _) rfl (fun v1 => ?_)
  refine j_if_eq (q := 7) (tgt := 16) hx (dc kJ0_charAt_5068e_0 2 rfl) (by decide) Iff.rfl rfl ?_ ?_
  · refine j_aload_n (q := 17) hx (dc kJ0_charAt_5068e_0 8 rfl) rfl 0 rfl rfl ?_
    refine j_sV (q := 20) hx lsf_J0_9 (dc kJ0_charAt_5068e_0 9 rfl) rfl (fun v3 => ?_)
    refine j_iload_n (q := 21) hx (dc kJ0_charAt_5068e_0 10 rfl) rfl 1 rfl rfl ?_
    exact j_none
  · refine j_aload_n (q := 8) hx (dc kJ0_charAt_5068e_0 3 rfl) rfl 0 rfl rfl ?_
    refine j_sV (q := 11) hx lsf_J0_9 (dc kJ0_charAt_5068e_0 4 rfl) rfl (fun v4 => ?_)
    refine j_iload_n (q := 12) hx (dc kJ0_charAt_5068e_0 5 rfl) rfl 1 rfl rfl ?_
    refine w_cSIR (q := 15) (As := [vR x.2.2.2 v4, .int x1]) (st := []) hx (dc kJ0_charAt_5068e_0 6 rfl) (cI _ my_J1_charAt_3b067 lm_J0_495 (by decide)) st_J1_charAt_3b067 rfl (fun u hu => sJ1_charAt_3b067 _ _ _ _ _ _ hu) (Nat.zero_le _) rfl (fun v5 => ?_)
    exact r_nR hx hR (dc kJ0_charAt_5068e_0 7 rfl)

set_option maxHeartbeats 4000000 in
set_option maxRecDepth 100000 in
theorem sX8_withLetter (l : Launch) (w : Wd) (x0 : Int32) (x1 : Int32) (h : Hp) (u : Int32) (hK : mX8_withLetter x0 x1 = some u) : M1 l w mi_X8_withLetter 1 [.int x0, .int x1] h h (some (.int u)) := by
  refine M1.of (own := RX8) (T := fun _ r => r = u) hK (by decide +kernel) rfl (by first | (simp only [lg_lenR, lg_lenI, lg_lenL, lg_len0]; decide) | decide) (fun x hx hnl hhf hl hw hret hnm hQ h0e => ⟨?_, rfl⟩)
  subst hw
  subst hl
  have hR : Rt x h h (some (.int u)) ((some .int)) := ⟨h0e, hhf, hret, hQ⟩
  have hn : ∀ i, i < 2 → i < x.2.2.1.1.1 := fun i hi => by rw [hnl]; exact hi
  have e0 : lv_args 0 [.int x0, .int x1] = [(0, .int x0), (1, .int x1)] := by simp only [lv_argsR, lv_argsI, lv_argsL, lv_args0]
  rw [e0]
  unfold mX8_withLetter
  refine j_iload_n (q := 1) hx (dc kX8_withLetter_0 0 rfl) rfl 0 rfl rfl ?_
  refine j_iconst (q := 2) (v := (5 : Int32)) hx (dc kX8_withLetter_0 1 rfl) (by decide) rfl ?_
  refine j_ishl (q := 3) hx (dc kX8_withLetter_0 2 rfl) rfl ?_
  refine j_iload_n (q := 4) hx (dc kX8_withLetter_0 3 rfl) rfl 1 rfl rfl ?_
  refine j_bipush (q := 6) (v := (97 : Int32)) hx (dc kX8_withLetter_0 4 rfl) (by decide) rfl ?_
  refine j_isub (q := 7) hx (dc kX8_withLetter_0 5 rfl) rfl ?_
  refine j_iconst (q := 8) (v := (1 : Int32)) hx (dc kX8_withLetter_0 6 rfl) (by decide) rfl ?_
  refine j_iadd (q := 9) hx (dc kX8_withLetter_0 7 rfl) rfl ?_
  refine j_ior (q := 10) hx (dc kX8_withLetter_0 8 rfl) rfl ?_
  exact r_iR hx hR (dc kX8_withLetter_0 9 rfl)

set_option maxHeartbeats 4000000 in
set_option maxRecDepth 100000 in
theorem sX8_reservedLetters (l : Launch) (w : Wd) (x0 : Int32) (h : Hp) (u : Int32) (hK : mX8_reservedLetters x0 h = some u) : M1 l w mi_X8_reservedLetters 5 [.int x0] h h (some (.int u)) := by
  refine M1.of (own := RX8) (T := fun _ r => r = u) hK (by decide +kernel) rfl (by first | (simp only [lg_lenR, lg_lenI, lg_lenL, lg_len0]; decide) | decide) (fun x hx hnl hhf hl hw hret hnm hQ h0e => ⟨?_, rfl⟩)
  subst hw
  subst hl
  have hR : Rt x h h (some (.int u)) ((some .int)) := ⟨h0e, hhf, hret, hQ⟩
  have hn : ∀ i, i < 5 → i < x.2.2.1.1.1 := fun i hi => by rw [hnl]; exact hi
  have e0 : lv_args 0 [.int x0] = [(0, .int x0)] := by simp only [lv_argsR, lv_argsI, lv_argsL, lv_args0]
  rw [e0]
  have hb4 : ∀ (x0 : Int32) (x1 : Int32) (x2 : Int32), J x 4 [(0, .int x0), (1, .int x1), (2, .int x2)] [] h (mX8_reservedLetters_l4 x0 x1 x2 h) (fun r => r = u) := by
    intro x0 x1 x2
    have hB : ∀ (x1 : Int32) (x2 : Int32), J x 4 [(0, .int x0), (1, .int x1), (2, .int x2)] [] h (mX8_reservedLetters_l4f x0 h x1 x2) (TLo (S := (Int32 × Int32)) x 4 (fun s => [(0, .int x0), (1, .int s.1), (2, .int s.2)]) [] (fun s => h) (fun r => r = u)) := by
      intro x1 x2
      have hb53 : ∀ (x0 : Int32) (x1 : Int32) (x2 : Int32), J x 53 [(0, .int x0), (1, .int x1), (2, .int x2)] [] h (mX8_reservedLetters_b53 x0 x1 x2 h) (TLo (S := (Int32 × Int32)) x 4 (fun s => [(0, .int x0), (1, .int s.1), (2, .int s.2)]) [] (fun s => h) (fun r => r = u)) := by
        intro x0 x1 x2
        unfold mX8_reservedLetters_b53
        refine j_iinc (q := 56) (l2 := [(0, .int x0), (1, .int x1)]) hx (dc kX8_reservedLetters_0 30 rfl) 2 rfl (v := (1 : Int32)) (by decide) (hn 2 (by decide)) [0, 1] rfl ⟨⟨show (0 : Nat) ≠ 2 by decide, Or.inl (show (0 : Nat) + 1 ≠ 2 by decide)⟩, ⟨⟨show (1 : Nat) ≠ 2 by decide, Or.inr rfl⟩, trivial⟩⟩ rfl ?_
        refine j_goto (q := 4) hx (dc kX8_reservedLetters_0 31 rfl) (by decide) ?_
        exact j_back [1, 2, 0] (x1, (x2 + (1 : Int32))) rfl rfl
      have hb37 : ∀ (x0 : Int32) (x1 : Int32) (x2 : Int32) (t0 : Int32), J x 37 [(0, .int x0), (1, .int x1), (2, .int x2)] [.int t0] h (mX8_reservedLetters_b37 x0 x1 x2 t0 h) (TLo (S := (Int32 × Int32)) x 4 (fun s => [(0, .int x0), (1, .int s.1), (2, .int s.2)]) [] (fun s => h) (fun r => r = u)) := by
        intro x0 x1 x2 t0
        unfold mX8_reservedLetters_b37
        refine j_istore (q := 39) (i := 4) (l2 := [(0, .int x0), (1, .int x1), (2, .int x2)]) hx (dc kX8_reservedLetters_0 22 rfl) (hn 4 (by decide)) [0, 1, 2] rfl ⟨⟨show (0 : Nat) ≠ 4 by decide, Or.inl (show (0 : Nat) + 1 ≠ 4 by decide)⟩, ⟨⟨show (1 : Nat) ≠ 4 by decide, Or.inl (show (1 : Nat) + 1 ≠ 4 by decide)⟩, ⟨⟨show (2 : Nat) ≠ 4 by decide, Or.inl (show (2 : Nat) + 1 ≠ 4 by decide)⟩, trivial⟩⟩⟩ rfl ?_
        refine j_iload (q := 41) hx (dc kX8_reservedLetters_0 23 rfl) 0 rfl rfl ?_
        refine j_bipush (q := 43) (v := (32 : Int32)) hx (dc kX8_reservedLetters_0 24 rfl) (by decide) rfl ?_
        refine j_icmp_eq (q := 46) (tgt := 53) hx (dc kX8_reservedLetters_0 25 rfl) (by decide) Iff.rfl rfl ?_ ?_
        · exact j_sub [1, 2, 3] rfl (hb53 x0 x1 x2)
        · refine j_iload_n (q := 47) hx (dc kX8_reservedLetters_0 26 rfl) rfl 2 rfl rfl ?_
          refine j_iload (q := 49) hx (dc kX8_reservedLetters_0 27 rfl) 0 rfl rfl ?_
          refine w_cSIR (q := 52) (As := [.int x1, .int t0]) (st := []) hx (dc kX8_reservedLetters_0 28 rfl) (cI _ my_X8_withLetter lm_X8_44 (by decide)) st_X8_withLetter rfl (fun u hu => sX8_withLetter _ _ _ _ _ _ hu) (Nat.zero_le _) rfl (fun v3 => ?_)
          refine j_istore_n (q := 53) (i := 1) (l2 := [(0, .int x0), (2, .int x2)]) hx (dc kX8_reservedLetters_0 29 rfl) rfl (hn 1 (by decide)) [1, 3] rfl ⟨⟨show (0 : Nat) ≠ 1 by decide, Or.inr rfl⟩, ⟨⟨show (2 : Nat) ≠ 1 by decide, Or.inl (show (2 : Nat) + 1 ≠ 1 by decide)⟩, trivial⟩⟩ rfl ?_
          exact j_sub [1, 0, 2] rfl (hb53 x0 v3 x2)
      unfold mX8_reservedLetters_l4f
      refine j_iload_n (q := 5) hx (dc kX8_reservedLetters_0 4 rfl) rfl 2 rfl rfl ?_
      refine j_bipush (q := 7) (v := (6 : Int32)) hx (dc kX8_reservedLetters_0 5 rfl) (by decide) rfl ?_
      refine j_icmp_geS (q := 10) (tgt := 59) hx (dc kX8_reservedLetters_0 6 rfl) (by decide) rfl ?_ ?_
      · refine j_exit ?_
        refine j_iload_n (q := 60) hx (dc kX8_reservedLetters_0 32 rfl) rfl 1 rfl rfl ?_
        exact r_iR hx hR (dc kX8_reservedLetters_0 33 rfl)
      · refine j_iload_n (q := 11) hx (dc kX8_reservedLetters_0 7 rfl) rfl 0 rfl rfl ?_
        refine j_bipush (q := 13) (v := (6 : Int32)) hx (dc kX8_reservedLetters_0 8 rfl) (by decide) rfl ?_
        refine j_imul (q := 14) hx (dc kX8_reservedLetters_0 9 rfl) rfl ?_
        refine j_iload_n (q := 15) hx (dc kX8_reservedLetters_0 10 rfl) rfl 2 rfl rfl ?_
        refine j_iadd (q := 16) hx (dc kX8_reservedLetters_0 11 rfl) rfl ?_
        refine j_istore_n (q := 17) (i := 3) (l2 := [(0, .int x0), (1, .int x1), (2, .int x2)]) hx (dc kX8_reservedLetters_0 12 rfl) rfl (hn 3 (by decide)) [0, 1, 2] rfl ⟨⟨show (0 : Nat) ≠ 3 by decide, Or.inl (show (0 : Nat) + 1 ≠ 3 by decide)⟩, ⟨⟨show (1 : Nat) ≠ 3 by decide, Or.inl (show (1 : Nat) + 1 ≠ 3 by decide)⟩, ⟨⟨show (2 : Nat) ≠ 3 by decide, Or.inr rfl⟩, trivial⟩⟩⟩ rfl ?_
        refine j_iload_n (q := 18) hx (dc kX8_reservedLetters_0 13 rfl) rfl 0 rfl rfl ?_
        refine j_ldcS (a := 0) (q := 20) hx (show (_, _, "fact  never count worth arose needs plea  says  same  limit of    ", _) ∈ strs0 by decide +kernel) (dc kX8_reservedLetters_0 14 rfl) rfl ?_
        refine w_cTIR (q := 23) (As := []) (st := [.int ((x0 * (6 : Int32)) + x2)]) hx (dc kX8_reservedLetters_0 15 rfl) (cI _ my_J0_length_8abf5 lm_X8_34 (by decide)) vs_J0_length_8abf5 rfl (fun u hu => sJ0_length_8abf5 _ _ _ _ _ hu) rfl (fun e => ite_ne (by unfold mJ0_length_8abf5 at e; exact e)) (sum_le (sum_I sum_nil) (by decide)) rfl (fun v1 => ?_)
        refine j_icmp_geS (q := 26) (tgt := 35) hx (dc kX8_reservedLetters_0 16 rfl) (by decide) rfl ?_ ?_
        · refine j_bipush (q := 37) (v := (32 : Int32)) hx (dc kX8_reservedLetters_0 21 rfl) (by decide) rfl ?_
          exact j_sub [1, 2, 3] rfl (hb37 x0 x1 x2 (32 : Int32))
        · refine j_ldcS (a := 0) (q := 28) hx (show (_, _, "fact  never count worth arose needs plea  says  same  limit of    ", _) ∈ strs0 by decide +kernel) (dc kX8_reservedLetters_0 17 rfl) rfl ?_
          refine j_iload_n (q := 29) hx (dc kX8_reservedLetters_0 18 rfl) rfl 0 rfl rfl ?_
          refine w_cTIR (q := 32) (As := [.int ((x0 * (6 : Int32)) + x2)]) (st := []) hx (dc kX8_reservedLetters_0 19 rfl) (cI _ my_J0_charAt_5068e lm_X8_40 (by decide)) vs_J0_charAt_5068e rfl (fun u hu => sJ0_charAt_5068e _ _ _ _ _ _ hu) rfl (fun e => ite_ne (by unfold mJ0_charAt_5068e at e; exact e)) (Nat.zero_le _) rfl (fun v5 => ?_)
          refine j_goto (q := 37) hx (dc kX8_reservedLetters_0 20 rfl) (by decide) ?_
          exact j_sub [1, 2, 3] rfl (hb37 x0 x1 x2 v5)
    exact j_loop (S := (Int32 × Int32)) (lvf := fun s => [(0, .int x0), (1, .int s.1), (2, .int s.2)]) (hpf := fun s => h) (f := (fun s : (Int32 × Int32) => mX8_reservedLetters_l4f x0 h s.1 s.2)) (fun s => hB s.1 s.2) (x1, x2)
  unfold mX8_reservedLetters
  refine j_iconst (q := 1) (v := (0 : Int32)) hx (dc kX8_reservedLetters_0 0 rfl) (by decide) rfl ?_
  refine j_istore_n (q := 2) (i := 1) (l2 := [(0, .int x0)]) hx (dc kX8_reservedLetters_0 1 rfl) rfl (hn 1 (by decide)) [0] rfl ⟨⟨show (0 : Nat) ≠ 1 by decide, Or.inr rfl⟩, trivial⟩ rfl ?_
  refine j_iconst (q := 3) (v := (0 : Int32)) hx (dc kX8_reservedLetters_0 2 rfl) (by decide) rfl ?_
  refine j_istore_n (q := 4) (i := 2) (l2 := [(1, .int (0 : Int32)), (0, .int x0)]) hx (dc kX8_reservedLetters_0 3 rfl) rfl (hn 2 (by decide)) [0, 1] rfl ⟨⟨show (1 : Nat) ≠ 2 by decide, Or.inr rfl⟩, ⟨⟨show (0 : Nat) ≠ 2 by decide, Or.inl (show (0 : Nat) + 1 ≠ 2 by decide)⟩, trivial⟩⟩ rfl ?_
  exact j_sub [2, 1, 0] rfl (hb4 x0 (0 : Int32) (0 : Int32))

set_option maxHeartbeats 4000000 in
set_option maxRecDepth 100000 in
theorem sX8_init {x0 : Nat} (hvx0 : x0 ≠ 0) (l : Launch) (w : Wd) (h : Hp) (u : Hp) (hK : mX8_init x0 h = some u) : M1 l w mi_X8_init 6 [vR w x0] h u (none) := by
  refine M1.of (own := RX8) (T := fun _ r => r = u) hK (by decide +kernel) rfl (by first | (simp only [lg_lenR, lg_lenI, lg_lenL, lg_len0]; decide) | decide) (fun x hx hnl hhf hl hw hret hnm hQ h0e => ⟨?_, rfl⟩)
  subst hw
  subst hl
  have hR : Rt x h u (none) (none) := ⟨h0e, hhf, hret, hQ⟩
  have hn : ∀ i, i < 2 → i < x.2.2.1.1.1 := fun i hi => by rw [hnl]; exact hi
  have e0 : lv_args 0 [vR x.2.2.2 x0] = [(0, vR x.2.2.2 x0)] := by simp only [lv_argsR, lv_argsI, lv_argsL, lv_args0]
  rw [e0]
  have hb41 : ∀ (x0 : Nat) (x1 : Int32) (h : Hp), J x 41 [(0, vR x.2.2.2 x0), (1, .int x1)] [] h (mX8_init_l41 x0 x1 h) (fun r => r = u) := by
    intro x0 x1 h
    have hB : ∀ (x1 : Int32) (h : Hp), J x 41 [(0, vR x.2.2.2 x0), (1, .int x1)] [] h (mX8_init_l41f x0 x1 h) (TLo (S := (Int32 × Hp)) x 41 (fun s => [(0, vR x.2.2.2 x0), (1, .int s.1)]) [] (fun s => s.2) (fun r => r = u)) := by
      intro x1 h
      unfold mX8_init_l41f
      refine j_iload_n (q := 42) hx (dc kX8_init_0 20 rfl) rfl 1 rfl rfl ?_
      refine j_bipush (q := 44) (v := (11 : Int32)) hx (dc kX8_init_0 21 rfl) (by decide) rfl ?_
      refine j_icmp_geS (q := 47) (tgt := 65) hx (dc kX8_init_0 22 rfl) (by decide) rfl ?_ ?_
      · refine j_exit ?_
        exact r_vW hx hR (dc kX8_init_0 31 rfl)
      · refine j_aload_n (q := 48) hx (dc kX8_init_0 23 rfl) rfl 0 rfl rfl ?_
        refine w_gR (q := 51) hx (dc kX8_init_0 24 rfl) ff_X8_3 lk_X8_21 rfl (fun v13 => ?_)
        refine j_iload_n (q := 52) hx (dc kX8_init_0 25 rfl) rfl 1 rfl rfl ?_
        refine j_iload_n (q := 53) hx (dc kX8_init_0 26 rfl) rfl 1 rfl rfl ?_
        refine w_cSIR (q := 56) (As := [.int x1]) (st := [.int x1, vR x.2.2.2 v13]) hx (dc kX8_init_0 27 rfl) (cI _ my_X8_reservedLetters lm_X8_24 (by decide)) st_X8_reservedLetters rfl (fun u hu => sX8_reservedLetters _ _ _ _ _ hu) (sum_le (sum_I (sum_R sum_nil)) (by decide)) rfl (fun v14 => ?_)
        refine w_cSVW (q := 59) (As := [vR x.2.2.2 v13, .int x1, .int v14]) (st := []) hx (dc kX8_init_0 28 rfl) (cI _ my_X11_put lm_X8_28 (by decide)) st_X11_put rfl (fun u hu => sX11_put _ _ _ _ _ _ _ hu) (Nat.zero_le _) rfl (fun h17 => ?_)
        refine j_iinc (q := 62) (l2 := [(0, vR x.2.2.2 x0)]) hx (dc kX8_init_0 29 rfl) 1 rfl (v := (1 : Int32)) (by decide) (hn 1 (by decide)) [0] rfl ⟨⟨show (0 : Nat) ≠ 1 by decide, Or.inr (vR_cat _ _)⟩, trivial⟩ rfl ?_
        refine j_goto (q := 41) hx (dc kX8_init_0 30 rfl) (by decide) ?_
        exact j_back [1, 0] ((x1 + (1 : Int32)), h17) rfl rfl
    exact j_loop (S := (Int32 × Hp)) (lvf := fun s => [(0, vR x.2.2.2 x0), (1, .int s.1)]) (hpf := fun s => s.2) (f := (fun s : (Int32 × Hp) => mX8_init_l41f x0 s.1 s.2)) (fun s => hB s.1 s.2) (x1, h)
  unfold mX8_init
  refine j_aload_n (q := 1) hx (dc kX8_init_0 0 rfl) rfl 0 rfl rfl ?_
  refine j_obj (q := 4) hx (dc kX8_init_0 1 rfl) lo_X8_3 hvx0 (by decide) (Nat.zero_le _) rfl ?_
  refine j_aload_n (q := 5) hx (dc kX8_init_0 2 rfl) rfl 0 rfl rfl ?_
  refine j_sipush (q := 8) (v := (481 : Int32)) hx (dc kX8_init_0 3 rfl) (by decide) rfl ?_
  refine j_newarray50 (q := 10) hx (dc kX8_init_0 4 rfl) ac_I (by decide) (by decide) (by decide) rfl (fun v2 hvv2 h1 => ?_)
  refine w_sR (q := 13) hx (dc kX8_init_0 5 rfl) ff_X8_0 lk_X8_9 (Or.inr ⟨hnm, rfl, rfl, lt_X8_9⟩) rfl (fun h3 => ?_)
  refine j_aload_n (q := 14) hx (dc kX8_init_0 6 rfl) rfl 0 rfl rfl ?_
  refine j_sipush (q := 17) (v := (481 : Int32)) hx (dc kX8_init_0 7 rfl) (by decide) rfl ?_
  refine j_newarray50 (q := 19) hx (dc kX8_init_0 8 rfl) ac_I (by decide) (by decide) (by decide) rfl (fun v5 hvv5 h4 => ?_)
  refine w_sR (q := 22) hx (dc kX8_init_0 9 rfl) ff_X8_1 lk_X8_15 (Or.inr ⟨hnm, rfl, rfl, lt_X8_15⟩) rfl (fun h6 => ?_)
  refine j_aload_n (q := 23) hx (dc kX8_init_0 10 rfl) rfl 0 rfl rfl ?_
  refine j_sipush (q := 26) (v := (481 : Int32)) hx (dc kX8_init_0 11 rfl) (by decide) rfl ?_
  refine j_newarray50 (q := 28) hx (dc kX8_init_0 12 rfl) ac_I (by decide) (by decide) (by decide) rfl (fun v8 hvv8 h7 => ?_)
  refine w_sR (q := 31) hx (dc kX8_init_0 13 rfl) ff_X8_2 lk_X8_18 (Or.inr ⟨hnm, rfl, rfl, lt_X8_18⟩) rfl (fun h9 => ?_)
  refine j_aload_n (q := 32) hx (dc kX8_init_0 14 rfl) rfl 0 rfl rfl ?_
  refine j_bipush (q := 34) (v := (11 : Int32)) hx (dc kX8_init_0 15 rfl) (by decide) rfl ?_
  refine j_newarray50 (q := 36) hx (dc kX8_init_0 16 rfl) ac_I (by decide) (by decide) (by decide) rfl (fun v11 hvv11 h10 => ?_)
  refine w_sR (q := 39) hx (dc kX8_init_0 17 rfl) ff_X8_3 lk_X8_21 (Or.inr ⟨hnm, rfl, rfl, lt_X8_21⟩) rfl (fun h12 => ?_)
  refine j_iconst (q := 40) (v := (0 : Int32)) hx (dc kX8_init_0 18 rfl) (by decide) rfl ?_
  refine j_istore_n (q := 41) (i := 1) (l2 := [(0, vR x.2.2.2 x0)]) hx (dc kX8_init_0 19 rfl) rfl (hn 1 (by decide)) [0] rfl ⟨⟨show (0 : Nat) ≠ 1 by decide, Or.inr (vR_cat _ _)⟩, trivial⟩ rfl ?_
  exact j_sub [1, 0] rfl (hb41 x0 (0 : Int32) h12)

set_option maxHeartbeats 4000000 in
set_option maxRecDepth 100000 in
theorem sX8_runEnd (l : Launch) (w : Wd) (x0 : Nat) (x1 : Int32) (x2 : Int32) (x3 : Int32) (h : Hp) (u : Int32) (hK : mX8_runEnd x0 x1 x2 x3 h = some u) : M1 l w mi_X8_runEnd 3 [vR w x0, .int x1, .int x2, .int x3] h h (some (.int u)) := by
  refine M1.of (own := RX8) (T := fun _ r => r = u) hK (by decide +kernel) rfl (by first | (simp only [lg_lenR, lg_lenI, lg_lenL, lg_len0]; decide) | decide) (fun x hx hnl hhf hl hw hret hnm hQ h0e => ⟨?_, rfl⟩)
  subst hw
  subst hl
  have hR : Rt x h h (some (.int u)) ((some .int)) := ⟨h0e, hhf, hret, hQ⟩
  have hn : ∀ i, i < 7 → i < x.2.2.1.1.1 := fun i hi => by rw [hnl]; exact hi
  have e0 : lv_args 0 [vR x.2.2.2 x0, .int x1, .int x2, .int x3] = [(0, vR x.2.2.2 x0), (1, .int x1), (2, .int x2), (3, .int x3)] := by simp only [lv_argsR, lv_argsI, lv_argsL, lv_args0]
  rw [e0]
  have hb6 : ∀ (x0 : Nat) (x2 : Int32) (x3 : Int32) (x4 : Int32) (x5 : Int32), J x 6 [(0, vR x.2.2.2 x0), (2, .int x2), (3, .int x3), (4, .int x4), (5, .int x5)] [] h (mX8_runEnd_l6 x0 x2 x3 x4 x5 h) (fun r => r = u) := by
    intro x0 x2 x3 x4 x5
    have hB : ∀ (x4 : Int32) (x5 : Int32), J x 6 [(0, vR x.2.2.2 x0), (2, .int x2), (3, .int x3), (4, .int x4), (5, .int x5)] [] h (mX8_runEnd_l6f x0 x2 x3 h x4 x5) (TLo (S := (Int32 × Int32)) x 6 (fun s => [(0, vR x.2.2.2 x0), (2, .int x2), (3, .int x3), (4, .int s.1), (5, .int s.2)]) [] (fun s => h) (fun r => r = u)) := by
      intro x4 x5
      unfold mX8_runEnd_l6f
      refine j_iload (q := 8) hx (dc kX8_runEnd_0 4 rfl) 4 rfl rfl ?_
      refine j_aload_n (q := 9) hx (dc kX8_runEnd_0 5 rfl) rfl 0 rfl rfl ?_
      refine w_gI (q := 12) hx (dc kX8_runEnd_0 6 rfl) ff_X7_1 lk_X8_52 rfl (fun v1 => ?_)
      refine j_icmp_geS (q := 15) (tgt := 50) hx (dc kX8_runEnd_0 7 rfl) (by decide) rfl ?_ ?_
      · refine j_exit ?_
        refine j_iload (q := 52) hx (dc kX8_runEnd_0 25 rfl) 3 rfl rfl ?_
        exact r_iR hx hR (dc kX8_runEnd_0 26 rfl)
      · refine j_aload_n (q := 16) hx (dc kX8_runEnd_0 8 rfl) rfl 0 rfl rfl ?_
        refine j_iload (q := 18) hx (dc kX8_runEnd_0 9 rfl) 4 rfl rfl ?_
        refine w_cVIR (q := 21) (As := [.int x5]) (st := []) hx (dc kX8_runEnd_0 10 rfl) cf7 (by decide) rfl (cI _ my_X7_read lm_X8_55 (by decide)) vs_X7_read rfl (fun u hu => sX7_read _ _ _ _ _ _ hu) (fun e => ite_ne (by unfold mX7_read at e; exact e)) (Nat.zero_le _) rfl (fun v2 => ?_)
        refine j_istore (q := 23) (i := 6) (l2 := [(0, vR x.2.2.2 x0), (2, .int x2), (3, .int x3), (4, .int x4), (5, .int x5)]) hx (dc kX8_runEnd_0 11 rfl) (hn 6 (by decide)) [0, 1, 2, 3, 4] rfl ⟨⟨show (0 : Nat) ≠ 6 by decide, Or.inl (show (0 : Nat) + 1 ≠ 6 by decide)⟩, ⟨⟨show (2 : Nat) ≠ 6 by decide, Or.inl (show (2 : Nat) + 1 ≠ 6 by decide)⟩, ⟨⟨show (3 : Nat) ≠ 6 by decide, Or.inl (show (3 : Nat) + 1 ≠ 6 by decide)⟩, ⟨⟨show (4 : Nat) ≠ 6 by decide, Or.inl (show (4 : Nat) + 1 ≠ 6 by decide)⟩, ⟨⟨show (5 : Nat) ≠ 6 by decide, Or.inr rfl⟩, trivial⟩⟩⟩⟩⟩ rfl ?_
        refine j_iload (q := 25) hx (dc kX8_runEnd_0 12 rfl) 0 rfl rfl ?_
        refine j_iload_n (q := 26) hx (dc kX8_runEnd_0 13 rfl) rfl 2 rfl rfl ?_
        refine j_icmp_lt (q := 29) (tgt := 50) hx (dc kX8_runEnd_0 14 rfl) (by decide) Iff.rfl rfl ?_ ?_
        · refine j_exit ?_
          refine j_iload (q := 52) hx (dc kX8_runEnd_0 25 rfl) 4 rfl rfl ?_
          exact r_iR hx hR (dc kX8_runEnd_0 26 rfl)
        · refine j_iload (q := 31) hx (dc kX8_runEnd_0 15 rfl) 0 rfl rfl ?_
          refine j_iload_n (q := 32) hx (dc kX8_runEnd_0 16 rfl) rfl 3 rfl rfl ?_
          refine j_icmp_leS (q := 35) (tgt := 38) hx (dc kX8_runEnd_0 17 rfl) (by decide) rfl ?_ ?_
          · refine j_iload (q := 40) hx (dc kX8_runEnd_0 19 rfl) 5 rfl rfl ?_
            refine j_iconst (q := 41) (v := (1 : Int32)) hx (dc kX8_runEnd_0 20 rfl) (by decide) rfl ?_
            refine j_iadd (q := 42) hx (dc kX8_runEnd_0 21 rfl) rfl ?_
            refine j_istore (q := 44) (i := 4) (l2 := [(0, vR x.2.2.2 x0), (2, .int x2), (3, .int x3), (5, .int x5)]) hx (dc kX8_runEnd_0 22 rfl) (hn 4 (by decide)) [1, 2, 3, 5] rfl ⟨⟨show (0 : Nat) ≠ 4 by decide, Or.inl (show (0 : Nat) + 1 ≠ 4 by decide)⟩, ⟨⟨show (2 : Nat) ≠ 4 by decide, Or.inl (show (2 : Nat) + 1 ≠ 4 by decide)⟩, ⟨⟨show (3 : Nat) ≠ 4 by decide, Or.inr rfl⟩, ⟨⟨show (5 : Nat) ≠ 4 by decide, Or.inl (show (5 : Nat) + 1 ≠ 4 by decide)⟩, trivial⟩⟩⟩⟩ rfl ?_
            refine j_iinc (q := 47) (l2 := [(4, .int (x5 + (1 : Int32))), (0, vR x.2.2.2 x0), (2, .int x2), (3, .int x3)]) hx (dc kX8_runEnd_0 23 rfl) 4 rfl (v := (1 : Int32)) (by decide) (hn 5 (by decide)) [0, 1, 2, 3] rfl ⟨⟨show (4 : Nat) ≠ 5 by decide, Or.inr rfl⟩, ⟨⟨show (0 : Nat) ≠ 5 by decide, Or.inl (show (0 : Nat) + 1 ≠ 5 by decide)⟩, ⟨⟨show (2 : Nat) ≠ 5 by decide, Or.inl (show (2 : Nat) + 1 ≠ 5 by decide)⟩, ⟨⟨show (3 : Nat) ≠ 5 by decide, Or.inl (show (3 : Nat) + 1 ≠ 5 by decide)⟩, trivial⟩⟩⟩⟩ rfl ?_
            refine j_goto (q := 6) hx (dc kX8_runEnd_0 24 rfl) (by decide) ?_
            exact j_back [2, 3, 4, 1, 0] ((x5 + (1 : Int32)), (x5 + (1 : Int32))) rfl rfl
          · refine j_exit ?_
            refine j_goto (q := 50) hx (dc kX8_runEnd_0 18 rfl) (by decide) ?_
            refine j_iload (q := 52) hx (dc kX8_runEnd_0 25 rfl) 4 rfl rfl ?_
            exact r_iR hx hR (dc kX8_runEnd_0 26 rfl)
    exact j_loop (S := (Int32 × Int32)) (lvf := fun s => [(0, vR x.2.2.2 x0), (2, .int x2), (3, .int x3), (4, .int s.1), (5, .int s.2)]) (hpf := fun s => h) (f := (fun s : (Int32 × Int32) => mX8_runEnd_l6f x0 x2 x3 h s.1 s.2)) (fun s => hB s.1 s.2) (x4, x5)
  unfold mX8_runEnd
  refine j_iload_n (q := 1) hx (dc kX8_runEnd_0 0 rfl) rfl 1 rfl rfl ?_
  refine j_istore (q := 3) (i := 4) (l2 := [(0, vR x.2.2.2 x0), (1, .int x1), (2, .int x2), (3, .int x3)]) hx (dc kX8_runEnd_0 1 rfl) (hn 4 (by decide)) [0, 1, 2, 3] rfl ⟨⟨show (0 : Nat) ≠ 4 by decide, Or.inl (show (0 : Nat) + 1 ≠ 4 by decide)⟩, ⟨⟨show (1 : Nat) ≠ 4 by decide, Or.inl (show (1 : Nat) + 1 ≠ 4 by decide)⟩, ⟨⟨show (2 : Nat) ≠ 4 by decide, Or.inl (show (2 : Nat) + 1 ≠ 4 by decide)⟩, ⟨⟨show (3 : Nat) ≠ 4 by decide, Or.inr rfl⟩, trivial⟩⟩⟩⟩ rfl ?_
  refine j_iload_n (q := 4) hx (dc kX8_runEnd_0 2 rfl) rfl 2 rfl rfl ?_
  refine j_istore (q := 6) (i := 5) (l2 := [(4, .int x1), (0, vR x.2.2.2 x0), (2, .int x2), (3, .int x3)]) hx (dc kX8_runEnd_0 3 rfl) (hn 5 (by decide)) [0, 1, 3, 4] rfl ⟨⟨show (4 : Nat) ≠ 5 by decide, Or.inr rfl⟩, ⟨⟨show (0 : Nat) ≠ 5 by decide, Or.inl (show (0 : Nat) + 1 ≠ 5 by decide)⟩, ⟨⟨show (2 : Nat) ≠ 5 by decide, Or.inl (show (2 : Nat) + 1 ≠ 5 by decide)⟩, ⟨⟨show (3 : Nat) ≠ 5 by decide, Or.inl (show (3 : Nat) + 1 ≠ 5 by decide)⟩, trivial⟩⟩⟩⟩ rfl ?_
  exact j_sub [2, 3, 4, 1, 0] rfl (hb6 x0 x2 x3 x1 x1)

set_option maxHeartbeats 4000000 in
set_option maxRecDepth 100000 in
theorem sX8_note (l : Launch) (w : Wd) (x0 : Nat) (x1 : Int32) (x2 : Int32) (x3 : Int32) (h : Hp) (u : Hp) (hK : mX8_note x0 x1 x2 x3 h = some u) : M1 l w mi_X8_note 2 [vR w x0, .int x1, .int x2, .int x3] h u (none) := by
  refine M1.of (own := RX8) (T := fun _ r => r = u) hK (by decide +kernel) rfl (by first | (simp only [lg_lenR, lg_lenI, lg_lenL, lg_len0]; decide) | decide) (fun x hx hnl hhf hl hw hret hnm hQ h0e => ⟨?_, rfl⟩)
  subst hw
  subst hl
  have hR : Rt x h u (none) (none) := ⟨h0e, hhf, hret, hQ⟩
  have hn : ∀ i, i < 4 → i < x.2.2.1.1.1 := fun i hi => by rw [hnl]; exact hi
  have e0 : lv_args 0 [vR x.2.2.2 x0, .int x1, .int x2, .int x3] = [(0, vR x.2.2.2 x0), (1, .int x1), (2, .int x2), (3, .int x3)] := by simp only [lv_argsR, lv_argsI, lv_argsL, lv_args0]
  rw [e0]
  unfold mX8_note
  refine J.ckd fun hck => ?_
  refine j_aload_n (q := 1) hx (dc kX8_note_0 0 rfl) rfl 0 rfl rfl ?_
  refine w_gR (q := 4) hx (dc kX8_note_0 1 rfl) ff_X8_0 lk_X8_9 rfl (fun v1 => ?_)
  refine j_aload_n (q := 5) hx (dc kX8_note_0 2 rfl) rfl 0 rfl rfl ?_
  refine w_gI (q := 8) hx (dc kX8_note_0 3 rfl) ff_X8_4 lk_X8_48 rfl (fun v2 => ?_)
  refine j_iload_n (q := 9) hx (dc kX8_note_0 4 rfl) rfl 1 rfl rfl ?_
  refine w_cSVW (q := 12) (As := [vR x.2.2.2 v1, .int v2, .int x1]) (st := []) hx (dc kX8_note_0 5 rfl) (cI _ my_X11_put lm_X8_28 (by decide)) st_X11_put rfl (fun u hu => sX11_put _ _ _ _ _ _ _ hu) (Nat.zero_le _) rfl (fun h4 => ?_)
  refine j_aload_n (q := 13) hx (dc kX8_note_0 6 rfl) rfl 0 rfl rfl ?_
  refine w_gR (q := 16) hx (dc kX8_note_0 7 rfl) ff_X8_1 lk_X8_15 rfl (fun v5 => ?_)
  refine j_aload_n (q := 17) hx (dc kX8_note_0 8 rfl) rfl 0 rfl rfl ?_
  refine w_gI (q := 20) hx (dc kX8_note_0 9 rfl) ff_X8_4 lk_X8_48 rfl (fun v6 => ?_)
  refine j_iload_n (q := 21) hx (dc kX8_note_0 10 rfl) rfl 2 rfl rfl ?_
  refine w_cSVW (q := 24) (As := [vR x.2.2.2 v5, .int v6, .int x2]) (st := []) hx (dc kX8_note_0 11 rfl) (cI _ my_X11_put lm_X8_28 (by decide)) st_X11_put rfl (fun u hu => sX11_put _ _ _ _ _ _ _ hu) (Nat.zero_le _) rfl (fun h8 => ?_)
  refine j_aload_n (q := 25) hx (dc kX8_note_0 12 rfl) rfl 0 rfl rfl ?_
  refine w_gR (q := 28) hx (dc kX8_note_0 13 rfl) ff_X8_2 lk_X8_18 rfl (fun v9 => ?_)
  refine j_aload_n (q := 29) hx (dc kX8_note_0 14 rfl) rfl 0 rfl rfl ?_
  refine w_gI (q := 32) hx (dc kX8_note_0 15 rfl) ff_X8_4 lk_X8_48 rfl (fun v10 => ?_)
  refine j_iload_n (q := 33) hx (dc kX8_note_0 16 rfl) rfl 3 rfl rfl ?_
  refine w_cSVW (q := 36) (As := [vR x.2.2.2 v9, .int v10, .int x3]) (st := []) hx (dc kX8_note_0 17 rfl) (cI _ my_X11_put lm_X8_28 (by decide)) st_X11_put rfl (fun u hu => sX11_put _ _ _ _ _ _ _ hu) (Nat.zero_le _) rfl (fun h12 => ?_)
  refine j_aload_n (q := 37) hx (dc kX8_note_0 18 rfl) rfl 0 rfl rfl ?_
  refine j_dup (q := 38) hx (dc kX8_note_0 19 rfl) (vR_cat _ _) rfl ?_
  refine w_gI (q := 41) hx (dc kX8_note_0 20 rfl) ff_X8_4 lk_X8_48 rfl (fun v13 => ?_)
  refine j_iconst (q := 42) (v := (1 : Int32)) hx (dc kX8_note_0 21 rfl) (by decide) rfl ?_
  refine j_iadd (q := 43) hx (dc kX8_note_0 22 rfl) rfl ?_
  refine w_sI (q := 46) hx (dc kX8_note_0 23 rfl) ff_X8_4 rfl lk_X8_48 (Or.inl rfl) rfl (fun h14 => ?_)
  exact r_vW hx hR (dc kX8_note_0 24 rfl)

set_option maxHeartbeats 4000000 in
set_option maxRecDepth 100000 in
theorem sX8_noteWord (l : Launch) (w : Wd) (x0 : Nat) (x1 : Nat) (x2 : Int32) (x3 : Int32) (h : Hp) (u : Hp) (hK : mX8_noteWord x0 x1 x2 x3 h = some u) : M1 l w mi_X8_noteWord 3 [vR w x0, vR w x1, .int x2, .int x3] h u (none) := by
  refine M1.of (own := RX8) (T := fun _ r => r = u) hK (by decide +kernel) rfl (by first | (simp only [lg_lenR, lg_lenI, lg_lenL, lg_len0]; decide) | decide) (fun x hx hnl hhf hl hw hret hnm hQ h0e => ⟨?_, rfl⟩)
  subst hw
  subst hl
  have hR : Rt x h u (none) (none) := ⟨h0e, hhf, hret, hQ⟩
  have hn : ∀ i, i < 7 → i < x.2.2.1.1.1 := fun i hi => by rw [hnl]; exact hi
  have e0 : lv_args 0 [vR x.2.2.2 x0, vR x.2.2.2 x1, .int x2, .int x3] = [(0, vR x.2.2.2 x0), (1, vR x.2.2.2 x1), (2, .int x2), (3, .int x3)] := by simp only [lv_argsR, lv_argsI, lv_argsL, lv_args0]
  rw [e0]
  have hb53 : ∀ (x0 : Nat) (x2 : Int32) (x4 : Int32) (x5 : Int32) (x6 : Int32) (h : Hp), J x 53 [(0, vR x.2.2.2 x0), (2, .int x2), (4, .int x4), (5, .int x5), (6, .int x6)] [] h (mX8_noteWord_l53 x0 x2 x4 x5 x6 h) (fun r => r = u) := by
    intro x0 x2 x4 x5 x6 h
    have hB : ∀ (x5 : Int32) (x6 : Int32), J x 53 [(0, vR x.2.2.2 x0), (2, .int x2), (4, .int x4), (5, .int x5), (6, .int x6)] [] h (mX8_noteWord_l53f x0 x2 x4 h x5 x6) (TLo (S := (Int32 × Int32)) x 53 (fun s => [(0, vR x.2.2.2 x0), (2, .int x2), (4, .int x4), (5, .int s.1), (6, .int s.2)]) [] (fun s => h) (fun r => r = u)) := by
      intro x5 x6
      have hb82 : ∀ (x0 : Nat) (x2 : Int32) (x4 : Int32) (x5 : Int32) (x6 : Int32) (h : Hp), J x 82 [(0, vR x.2.2.2 x0), (2, .int x2), (4, .int x4), (5, .int x5), (6, .int x6)] [] h (mX8_noteWord_b82 x0 x2 x4 x5 x6 h) (TLo (S := (Int32 × Int32)) x 53 (fun s => [(0, vR x.2.2.2 x0), (2, .int x2), (4, .int x4), (5, .int s.1), (6, .int s.2)]) [] (fun s => h) (fun r => r = u)) := by
        intro x0 x2 x4 x5 x6 h
        unfold mX8_noteWord_b82
        refine j_iinc (q := 85) (l2 := [(0, vR x.2.2.2 x0), (2, .int x2), (4, .int x4), (5, .int x5)]) hx (dc kX8_noteWord_0 43 rfl) 4 rfl (v := (1 : Int32)) (by decide) (hn 6 (by decide)) [0, 1, 2, 3] rfl ⟨⟨show (0 : Nat) ≠ 6 by decide, Or.inl (show (0 : Nat) + 1 ≠ 6 by decide)⟩, ⟨⟨show (2 : Nat) ≠ 6 by decide, Or.inl (show (2 : Nat) + 1 ≠ 6 by decide)⟩, ⟨⟨show (4 : Nat) ≠ 6 by decide, Or.inl (show (4 : Nat) + 1 ≠ 6 by decide)⟩, ⟨⟨show (5 : Nat) ≠ 6 by decide, Or.inr rfl⟩, trivial⟩⟩⟩⟩ rfl ?_
        refine j_goto (q := 53) hx (dc kX8_noteWord_0 44 rfl) (by decide) ?_
        exact j_back [1, 2, 3, 4, 0] (x5, (x6 + (1 : Int32))) rfl rfl
      unfold mX8_noteWord_l53f
      refine j_iload (q := 55) hx (dc kX8_noteWord_0 30 rfl) 4 rfl rfl ?_
      refine j_bipush (q := 57) (v := (11 : Int32)) hx (dc kX8_noteWord_0 31 rfl) (by decide) rfl ?_
      refine j_icmp_geS (q := 60) (tgt := 88) hx (dc kX8_noteWord_0 32 rfl) (by decide) rfl ?_ ?_
      · refine j_exit ?_
        refine j_aload_n (q := 89) hx (dc kX8_noteWord_0 45 rfl) rfl 0 rfl rfl ?_
        refine j_iload (q := 91) hx (dc kX8_noteWord_0 46 rfl) 3 rfl rfl ?_
        refine j_iload_n (q := 92) hx (dc kX8_noteWord_0 47 rfl) rfl 1 rfl rfl ?_
        refine j_iload (q := 94) hx (dc kX8_noteWord_0 48 rfl) 2 rfl rfl ?_
        refine w_cVVW (q := 97) (As := [.int x5, .int x2, .int x4]) (st := []) hx (dc kX8_noteWord_0 49 rfl) cf8 (by decide) rfl (cI _ my_X8_note lm_X8_62 (by decide)) vs_X8_note rfl (fun u hu => sX8_note _ _ _ _ _ _ _ _ hu) (fun e => ite_ne (by unfold mX8_note at e; exact e)) (Nat.zero_le _) rfl (fun h2 => ?_)
        exact r_vW hx hR (dc kX8_noteWord_0 50 rfl)
      · refine j_aload_n (q := 61) hx (dc kX8_noteWord_0 33 rfl) rfl 0 rfl rfl ?_
        refine w_gR (q := 64) hx (dc kX8_noteWord_0 34 rfl) ff_X8_3 lk_X8_21 rfl (fun v3 => ?_)
        refine j_iload (q := 66) hx (dc kX8_noteWord_0 35 rfl) 4 rfl rfl ?_
        refine w_cSIR (q := 69) (As := [vR x.2.2.2 v3, .int x6]) (st := []) hx (dc kX8_noteWord_0 36 rfl) (cI _ my_X11_at lm_X8_82 (by decide)) st_X11_at rfl (fun u hu => sX11_at _ _ _ _ _ _ hu) (Nat.zero_le _) rfl (fun v4 => ?_)
        refine j_iload (q := 71) hx (dc kX8_noteWord_0 37 rfl) 2 rfl rfl ?_
        refine j_icmp_neS (q := 74) (tgt := 82) hx (dc kX8_noteWord_0 38 rfl) (by decide) rfl ?_ ?_
        · exact hb82 x0 x2 x4 x5 x6 h
        · refine j_sipush (q := 77) (v := (256 : Int32)) hx (dc kX8_noteWord_0 39 rfl) (by decide) rfl ?_
          refine j_iload (q := 79) hx (dc kX8_noteWord_0 40 rfl) 4 rfl rfl ?_
          refine j_iadd (q := 80) hx (dc kX8_noteWord_0 41 rfl) rfl ?_
          refine j_istore (q := 82) (i := 5) (l2 := [(0, vR x.2.2.2 x0), (2, .int x2), (4, .int x4), (6, .int x6)]) hx (dc kX8_noteWord_0 42 rfl) (hn 5 (by decide)) [0, 1, 2, 4] rfl ⟨⟨show (0 : Nat) ≠ 5 by decide, Or.inl (show (0 : Nat) + 1 ≠ 5 by decide)⟩, ⟨⟨show (2 : Nat) ≠ 5 by decide, Or.inl (show (2 : Nat) + 1 ≠ 5 by decide)⟩, ⟨⟨show (4 : Nat) ≠ 5 by decide, Or.inr rfl⟩, ⟨⟨show (6 : Nat) ≠ 5 by decide, Or.inl (show (6 : Nat) + 1 ≠ 5 by decide)⟩, trivial⟩⟩⟩⟩ rfl ?_
          exact j_sub [1, 2, 3, 0, 4] rfl (hb82 x0 x2 x4 ((256 : Int32) + x6) x6 h)
    exact j_loop (S := (Int32 × Int32)) (lvf := fun s => [(0, vR x.2.2.2 x0), (2, .int x2), (4, .int x4), (5, .int s.1), (6, .int s.2)]) (hpf := fun s => h) (f := (fun s : (Int32 × Int32) => mX8_noteWord_l53f x0 x2 x4 h s.1 s.2)) (fun s => hB s.1 s.2) (x5, x6)
  have hb22 : ∀ (x0 : Nat) (x1 : Nat) (x2 : Int32) (x3 : Int32) (x4 : Int32) (x5 : Int32) (h : Hp), J x 22 [(0, vR x.2.2.2 x0), (1, vR x.2.2.2 x1), (2, .int x2), (3, .int x3), (4, .int x4), (5, .int x5)] [] h (mX8_noteWord_l22 x0 x1 x2 x3 x4 x5 h) (fun r => r = u) := by
    intro x0 x1 x2 x3 x4 x5 h
    have hB : ∀ (x4 : Int32) (x5 : Int32), J x 22 [(0, vR x.2.2.2 x0), (1, vR x.2.2.2 x1), (2, .int x2), (3, .int x3), (4, .int x4), (5, .int x5)] [] h (mX8_noteWord_l22f x0 x1 x2 x3 h x4 x5) (TLo (S := (Int32 × Int32)) x 22 (fun s => [(0, vR x.2.2.2 x0), (1, vR x.2.2.2 x1), (2, .int x2), (3, .int x3), (4, .int s.1), (5, .int s.2)]) [] (fun s => h) (fun r => r = u)) := by
      intro x4 x5
      unfold mX8_noteWord_l22f
      refine j_iload (q := 24) hx (dc kX8_noteWord_0 15 rfl) 5 rfl rfl ?_
      refine j_iload_n (q := 25) hx (dc kX8_noteWord_0 16 rfl) rfl 3 rfl rfl ?_
      refine j_icmp_geS (q := 28) (tgt := 47) hx (dc kX8_noteWord_0 17 rfl) (by decide) rfl ?_ ?_
      · refine j_exit ?_
        refine j_iconst (q := 48) (v := (2 : Int32)) hx (dc kX8_noteWord_0 26 rfl) (by decide) rfl ?_
        refine j_istore (q := 50) (i := 5) (l2 := [(0, vR x.2.2.2 x0), (2, .int x2), (4, .int x4)]) hx (dc kX8_noteWord_0 27 rfl) (hn 5 (by decide)) [0, 2, 4] rfl ⟨⟨show (0 : Nat) ≠ 5 by decide, Or.inl (show (0 : Nat) + 1 ≠ 5 by decide)⟩, ⟨⟨show (2 : Nat) ≠ 5 by decide, Or.inl (show (2 : Nat) + 1 ≠ 5 by decide)⟩, ⟨⟨show (4 : Nat) ≠ 5 by decide, Or.inr rfl⟩, trivial⟩⟩⟩ rfl ?_
        refine j_iconst (q := 51) (v := (0 : Int32)) hx (dc kX8_noteWord_0 28 rfl) (by decide) rfl ?_
        refine j_istore (q := 53) (i := 6) (l2 := [(5, .int (2 : Int32)), (0, vR x.2.2.2 x0), (2, .int x2), (4, .int x4)]) hx (dc kX8_noteWord_0 29 rfl) (hn 6 (by decide)) [0, 1, 2, 3] rfl ⟨⟨show (5 : Nat) ≠ 6 by decide, Or.inr rfl⟩, ⟨⟨show (0 : Nat) ≠ 6 by decide, Or.inl (show (0 : Nat) + 1 ≠ 6 by decide)⟩, ⟨⟨show (2 : Nat) ≠ 6 by decide, Or.inl (show (2 : Nat) + 1 ≠ 6 by decide)⟩, ⟨⟨show (4 : Nat) ≠ 6 by decide, Or.inl (show (4 : Nat) + 1 ≠ 6 by decide)⟩, trivial⟩⟩⟩⟩ rfl ?_
        exact j_sub [2, 3, 4, 1, 0] rfl (hb53 x0 x2 x4 (2 : Int32) (0 : Int32) h)
      · refine j_iload (q := 30) hx (dc kX8_noteWord_0 18 rfl) 4 rfl rfl ?_
        refine j_aload_n (q := 31) hx (dc kX8_noteWord_0 19 rfl) rfl 1 rfl rfl ?_
        refine j_iload (q := 33) hx (dc kX8_noteWord_0 20 rfl) 5 rfl rfl ?_
        refine w_cVIR (q := 36) (As := [.int x5]) (st := [.int x4]) hx (dc kX8_noteWord_0 21 rfl) cf7 (by decide) rfl (cI _ my_X7_read lm_X8_55 (by decide)) vs_X7_read rfl (fun u hu => sX7_read _ _ _ _ _ _ hu) (fun e => ite_ne (by unfold mX7_read at e; exact e)) (sum_le (sum_I sum_nil) (by decide)) rfl (fun v6 => ?_)
        refine w_cSIR (q := 39) (As := [.int x4, .int v6]) (st := []) hx (dc kX8_noteWord_0 22 rfl) (cI _ my_X8_withLetter lm_X8_44 (by decide)) st_X8_withLetter rfl (fun u hu => sX8_withLetter _ _ _ _ _ _ hu) (Nat.zero_le _) rfl (fun v8 => ?_)
        refine j_istore (q := 41) (i := 4) (l2 := [(0, vR x.2.2.2 x0), (1, vR x.2.2.2 x1), (2, .int x2), (3, .int x3), (5, .int x5)]) hx (dc kX8_noteWord_0 23 rfl) (hn 4 (by decide)) [0, 1, 2, 3, 5] rfl ⟨⟨show (0 : Nat) ≠ 4 by decide, Or.inl (show (0 : Nat) + 1 ≠ 4 by decide)⟩, ⟨⟨show (1 : Nat) ≠ 4 by decide, Or.inl (show (1 : Nat) + 1 ≠ 4 by decide)⟩, ⟨⟨show (2 : Nat) ≠ 4 by decide, Or.inl (show (2 : Nat) + 1 ≠ 4 by decide)⟩, ⟨⟨show (3 : Nat) ≠ 4 by decide, Or.inr rfl⟩, ⟨⟨show (5 : Nat) ≠ 4 by decide, Or.inl (show (5 : Nat) + 1 ≠ 4 by decide)⟩, trivial⟩⟩⟩⟩⟩ rfl ?_
        refine j_iinc (q := 44) (l2 := [(4, .int v8), (0, vR x.2.2.2 x0), (1, vR x.2.2.2 x1), (2, .int x2), (3, .int x3)]) hx (dc kX8_noteWord_0 24 rfl) 5 rfl (v := (1 : Int32)) (by decide) (hn 5 (by decide)) [0, 1, 2, 3, 4] rfl ⟨⟨show (4 : Nat) ≠ 5 by decide, Or.inr rfl⟩, ⟨⟨show (0 : Nat) ≠ 5 by decide, Or.inl (show (0 : Nat) + 1 ≠ 5 by decide)⟩, ⟨⟨show (1 : Nat) ≠ 5 by decide, Or.inl (show (1 : Nat) + 1 ≠ 5 by decide)⟩, ⟨⟨show (2 : Nat) ≠ 5 by decide, Or.inl (show (2 : Nat) + 1 ≠ 5 by decide)⟩, ⟨⟨show (3 : Nat) ≠ 5 by decide, Or.inl (show (3 : Nat) + 1 ≠ 5 by decide)⟩, trivial⟩⟩⟩⟩⟩ rfl ?_
        refine j_goto (q := 22) hx (dc kX8_noteWord_0 25 rfl) (by decide) ?_
        exact j_back [2, 3, 4, 5, 1, 0] (v8, (x5 + (1 : Int32))) rfl rfl
    exact j_loop (S := (Int32 × Int32)) (lvf := fun s => [(0, vR x.2.2.2 x0), (1, vR x.2.2.2 x1), (2, .int x2), (3, .int x3), (4, .int s.1), (5, .int s.2)]) (hpf := fun s => h) (f := (fun s : (Int32 × Int32) => mX8_noteWord_l22f x0 x1 x2 x3 h s.1 s.2)) (fun s => hB s.1 s.2) (x4, x5)
  unfold mX8_noteWord
  refine J.ckd fun hck => ?_
  refine j_iload_n (q := 1) hx (dc kX8_noteWord_0 0 rfl) rfl 3 rfl rfl ?_
  refine j_iload_n (q := 2) hx (dc kX8_noteWord_0 1 rfl) rfl 2 rfl rfl ?_
  refine j_isub (q := 3) hx (dc kX8_noteWord_0 2 rfl) rfl ?_
  refine j_bipush (q := 5) (v := (6 : Int32)) hx (dc kX8_noteWord_0 3 rfl) (by decide) rfl ?_
  refine j_icmp_leS (q := 8) (tgt := 16) hx (dc kX8_noteWord_0 4 rfl) (by decide) rfl ?_ ?_
  · refine j_iconst (q := 17) (v := (0 : Int32)) hx (dc kX8_noteWord_0 11 rfl) (by decide) rfl ?_
    refine j_istore (q := 19) (i := 4) (l2 := [(0, vR x.2.2.2 x0), (1, vR x.2.2.2 x1), (2, .int x2), (3, .int x3)]) hx (dc kX8_noteWord_0 12 rfl) (hn 4 (by decide)) [0, 1, 2, 3] rfl ⟨⟨show (0 : Nat) ≠ 4 by decide, Or.inl (show (0 : Nat) + 1 ≠ 4 by decide)⟩, ⟨⟨show (1 : Nat) ≠ 4 by decide, Or.inl (show (1 : Nat) + 1 ≠ 4 by decide)⟩, ⟨⟨show (2 : Nat) ≠ 4 by decide, Or.inl (show (2 : Nat) + 1 ≠ 4 by decide)⟩, ⟨⟨show (3 : Nat) ≠ 4 by decide, Or.inr rfl⟩, trivial⟩⟩⟩⟩ rfl ?_
    refine j_iload_n (q := 20) hx (dc kX8_noteWord_0 13 rfl) rfl 3 rfl rfl ?_
    refine j_istore (q := 22) (i := 5) (l2 := [(4, .int (0 : Int32)), (0, vR x.2.2.2 x0), (1, vR x.2.2.2 x1), (2, .int x2), (3, .int x3)]) hx (dc kX8_noteWord_0 14 rfl) (hn 5 (by decide)) [0, 1, 2, 3, 4] rfl ⟨⟨show (4 : Nat) ≠ 5 by decide, Or.inr rfl⟩, ⟨⟨show (0 : Nat) ≠ 5 by decide, Or.inl (show (0 : Nat) + 1 ≠ 5 by decide)⟩, ⟨⟨show (1 : Nat) ≠ 5 by decide, Or.inl (show (1 : Nat) + 1 ≠ 5 by decide)⟩, ⟨⟨show (2 : Nat) ≠ 5 by decide, Or.inl (show (2 : Nat) + 1 ≠ 5 by decide)⟩, ⟨⟨show (3 : Nat) ≠ 5 by decide, Or.inl (show (3 : Nat) + 1 ≠ 5 by decide)⟩, trivial⟩⟩⟩⟩⟩ rfl ?_
    exact j_sub [2, 3, 4, 5, 1, 0] rfl (hb22 x0 x1 x2 x3 (0 : Int32) x2 h)
  · refine j_aload_n (q := 9) hx (dc kX8_noteWord_0 5 rfl) rfl 0 rfl rfl ?_
    refine j_iconst (q := 10) (v := (1 : Int32)) hx (dc kX8_noteWord_0 6 rfl) (by decide) rfl ?_
    refine j_iload_n (q := 11) hx (dc kX8_noteWord_0 7 rfl) rfl 2 rfl rfl ?_
    refine j_iconst (q := 12) (v := (0 : Int32)) hx (dc kX8_noteWord_0 8 rfl) (by decide) rfl ?_
    refine w_cVVW (q := 15) (As := [.int (1 : Int32), .int x2, .int (0 : Int32)]) (st := []) hx (dc kX8_noteWord_0 9 rfl) cf8 (by decide) rfl (cI _ my_X8_note lm_X8_62 (by decide)) vs_X8_note rfl (fun u hu => sX8_note _ _ _ _ _ _ _ _ hu) (fun e => ite_ne (by unfold mX8_note at e; exact e)) (Nat.zero_le _) rfl (fun h11 => ?_)
    exact r_vW hx hR (dc kX8_noteWord_0 10 rfl)

set_option maxHeartbeats 4000000 in
set_option maxRecDepth 100000 in
theorem sX8_noteNumber (l : Launch) (w : Wd) (x0 : Nat) (x1 : Nat) (x2 : Int32) (x3 : Int32) (h : Hp) (u : Hp) (hK : mX8_noteNumber x0 x1 x2 x3 h = some u) : M1 l w mi_X8_noteNumber 3 [vR w x0, vR w x1, .int x2, .int x3] h u (none) := by
  refine M1.of (own := RX8) (T := fun _ r => r = u) hK (by decide +kernel) rfl (by first | (simp only [lg_lenR, lg_lenI, lg_lenL, lg_len0]; decide) | decide) (fun x hx hnl hhf hl hw hret hnm hQ h0e => ⟨?_, rfl⟩)
  subst hw
  subst hl
  have hR : Rt x h u (none) (none) := ⟨h0e, hhf, hret, hQ⟩
  have hn : ∀ i, i < 6 → i < x.2.2.1.1.1 := fun i hi => by rw [hnl]; exact hi
  have e0 : lv_args 0 [vR x.2.2.2 x0, vR x.2.2.2 x1, .int x2, .int x3] = [(0, vR x.2.2.2 x0), (1, vR x.2.2.2 x1), (2, .int x2), (3, .int x3)] := by simp only [lv_argsR, lv_argsI, lv_argsL, lv_args0]
  rw [e0]
  have hb21 : ∀ (x0 : Nat) (x1 : Nat) (x2 : Int32) (x3 : Int32) (x4 : Int32) (x5 : Int32) (h : Hp), J x 21 [(0, vR x.2.2.2 x0), (1, vR x.2.2.2 x1), (2, .int x2), (3, .int x3), (4, .int x4), (5, .int x5)] [] h (mX8_noteNumber_l21 x0 x1 x2 x3 x4 x5 h) (fun r => r = u) := by
    intro x0 x1 x2 x3 x4 x5 h
    have hB : ∀ (x4 : Int32) (x5 : Int32), J x 21 [(0, vR x.2.2.2 x0), (1, vR x.2.2.2 x1), (2, .int x2), (3, .int x3), (4, .int x4), (5, .int x5)] [] h (mX8_noteNumber_l21f x0 x1 x2 x3 h x4 x5) (TLo (S := (Int32 × Int32)) x 21 (fun s => [(0, vR x.2.2.2 x0), (1, vR x.2.2.2 x1), (2, .int x2), (3, .int x3), (4, .int s.1), (5, .int s.2)]) [] (fun s => h) (fun r => r = u)) := by
      intro x4 x5
      unfold mX8_noteNumber_l21f
      refine j_iload (q := 23) hx (dc kX8_noteNumber_0 15 rfl) 5 rfl rfl ?_
      refine j_iload_n (q := 24) hx (dc kX8_noteNumber_0 16 rfl) rfl 3 rfl rfl ?_
      refine j_icmp_geS (q := 27) (tgt := 50) hx (dc kX8_noteNumber_0 17 rfl) (by decide) rfl ?_ ?_
      · refine j_exit ?_
        refine j_aload_n (q := 51) hx (dc kX8_noteNumber_0 30 rfl) rfl 0 rfl rfl ?_
        refine j_iconst (q := 52) (v := (3 : Int32)) hx (dc kX8_noteNumber_0 31 rfl) (by decide) rfl ?_
        refine j_iload_n (q := 53) hx (dc kX8_noteNumber_0 32 rfl) rfl 2 rfl rfl ?_
        refine j_iload (q := 55) hx (dc kX8_noteNumber_0 33 rfl) 4 rfl rfl ?_
        refine w_cVVW (q := 58) (As := [.int (3 : Int32), .int x2, .int x4]) (st := []) hx (dc kX8_noteNumber_0 34 rfl) cf8 (by decide) rfl (cI _ my_X8_note lm_X8_62 (by decide)) vs_X8_note rfl (fun u hu => sX8_note _ _ _ _ _ _ _ _ hu) (fun e => ite_ne (by unfold mX8_note at e; exact e)) (Nat.zero_le _) rfl (fun h2 => ?_)
        exact r_vW hx hR (dc kX8_noteNumber_0 35 rfl)
      · refine j_iload (q := 29) hx (dc kX8_noteNumber_0 18 rfl) 4 rfl rfl ?_
        refine j_bipush (q := 31) (v := (10 : Int32)) hx (dc kX8_noteNumber_0 19 rfl) (by decide) rfl ?_
        refine j_imul (q := 32) hx (dc kX8_noteNumber_0 20 rfl) rfl ?_
        refine j_aload_n (q := 33) hx (dc kX8_noteNumber_0 21 rfl) rfl 1 rfl rfl ?_
        refine j_iload (q := 35) hx (dc kX8_noteNumber_0 22 rfl) 5 rfl rfl ?_
        refine w_cVIR (q := 38) (As := [.int x5]) (st := [.int (x4 * (10 : Int32))]) hx (dc kX8_noteNumber_0 23 rfl) cf7 (by decide) rfl (cI _ my_X7_read lm_X8_55 (by decide)) vs_X7_read rfl (fun u hu => sX7_read _ _ _ _ _ _ hu) (fun e => ite_ne (by unfold mX7_read at e; exact e)) (sum_le (sum_I sum_nil) (by decide)) rfl (fun v3 => ?_)
        refine j_iadd (q := 39) hx (dc kX8_noteNumber_0 24 rfl) rfl ?_
        refine j_bipush (q := 41) (v := (48 : Int32)) hx (dc kX8_noteNumber_0 25 rfl) (by decide) rfl ?_
        refine j_isub (q := 42) hx (dc kX8_noteNumber_0 26 rfl) rfl ?_
        refine j_istore (q := 44) (i := 4) (l2 := [(0, vR x.2.2.2 x0), (1, vR x.2.2.2 x1), (2, .int x2), (3, .int x3), (5, .int x5)]) hx (dc kX8_noteNumber_0 27 rfl) (hn 4 (by decide)) [0, 1, 2, 3, 5] rfl ⟨⟨show (0 : Nat) ≠ 4 by decide, Or.inl (show (0 : Nat) + 1 ≠ 4 by decide)⟩, ⟨⟨show (1 : Nat) ≠ 4 by decide, Or.inl (show (1 : Nat) + 1 ≠ 4 by decide)⟩, ⟨⟨show (2 : Nat) ≠ 4 by decide, Or.inl (show (2 : Nat) + 1 ≠ 4 by decide)⟩, ⟨⟨show (3 : Nat) ≠ 4 by decide, Or.inr rfl⟩, ⟨⟨show (5 : Nat) ≠ 4 by decide, Or.inl (show (5 : Nat) + 1 ≠ 4 by decide)⟩, trivial⟩⟩⟩⟩⟩ rfl ?_
        refine j_iinc (q := 47) (l2 := [(4, .int (((x4 * (10 : Int32)) + v3) - (48 : Int32))), (0, vR x.2.2.2 x0), (1, vR x.2.2.2 x1), (2, .int x2), (3, .int x3)]) hx (dc kX8_noteNumber_0 28 rfl) 5 rfl (v := (1 : Int32)) (by decide) (hn 5 (by decide)) [0, 1, 2, 3, 4] rfl ⟨⟨show (4 : Nat) ≠ 5 by decide, Or.inr rfl⟩, ⟨⟨show (0 : Nat) ≠ 5 by decide, Or.inl (show (0 : Nat) + 1 ≠ 5 by decide)⟩, ⟨⟨show (1 : Nat) ≠ 5 by decide, Or.inl (show (1 : Nat) + 1 ≠ 5 by decide)⟩, ⟨⟨show (2 : Nat) ≠ 5 by decide, Or.inl (show (2 : Nat) + 1 ≠ 5 by decide)⟩, ⟨⟨show (3 : Nat) ≠ 5 by decide, Or.inl (show (3 : Nat) + 1 ≠ 5 by decide)⟩, trivial⟩⟩⟩⟩⟩ rfl ?_
        refine j_goto (q := 21) hx (dc kX8_noteNumber_0 29 rfl) (by decide) ?_
        exact j_back [2, 3, 4, 5, 1, 0] ((((x4 * (10 : Int32)) + v3) - (48 : Int32)), (x5 + (1 : Int32))) rfl rfl
    exact j_loop (S := (Int32 × Int32)) (lvf := fun s => [(0, vR x.2.2.2 x0), (1, vR x.2.2.2 x1), (2, .int x2), (3, .int x3), (4, .int s.1), (5, .int s.2)]) (hpf := fun s => h) (f := (fun s : (Int32 × Int32) => mX8_noteNumber_l21f x0 x1 x2 x3 h s.1 s.2)) (fun s => hB s.1 s.2) (x4, x5)
  unfold mX8_noteNumber
  refine J.ckd fun hck => ?_
  refine j_iload_n (q := 1) hx (dc kX8_noteNumber_0 0 rfl) rfl 3 rfl rfl ?_
  refine j_iload_n (q := 2) hx (dc kX8_noteNumber_0 1 rfl) rfl 2 rfl rfl ?_
  refine j_isub (q := 3) hx (dc kX8_noteNumber_0 2 rfl) rfl ?_
  refine j_iconst (q := 4) (v := (3 : Int32)) hx (dc kX8_noteNumber_0 3 rfl) (by decide) rfl ?_
  refine j_icmp_leS (q := 7) (tgt := 15) hx (dc kX8_noteNumber_0 4 rfl) (by decide) rfl ?_ ?_
  · refine j_iconst (q := 16) (v := (0 : Int32)) hx (dc kX8_noteNumber_0 11 rfl) (by decide) rfl ?_
    refine j_istore (q := 18) (i := 4) (l2 := [(0, vR x.2.2.2 x0), (1, vR x.2.2.2 x1), (2, .int x2), (3, .int x3)]) hx (dc kX8_noteNumber_0 12 rfl) (hn 4 (by decide)) [0, 1, 2, 3] rfl ⟨⟨show (0 : Nat) ≠ 4 by decide, Or.inl (show (0 : Nat) + 1 ≠ 4 by decide)⟩, ⟨⟨show (1 : Nat) ≠ 4 by decide, Or.inl (show (1 : Nat) + 1 ≠ 4 by decide)⟩, ⟨⟨show (2 : Nat) ≠ 4 by decide, Or.inl (show (2 : Nat) + 1 ≠ 4 by decide)⟩, ⟨⟨show (3 : Nat) ≠ 4 by decide, Or.inr rfl⟩, trivial⟩⟩⟩⟩ rfl ?_
    refine j_iload_n (q := 19) hx (dc kX8_noteNumber_0 13 rfl) rfl 3 rfl rfl ?_
    refine j_istore (q := 21) (i := 5) (l2 := [(4, .int (0 : Int32)), (0, vR x.2.2.2 x0), (1, vR x.2.2.2 x1), (2, .int x2), (3, .int x3)]) hx (dc kX8_noteNumber_0 14 rfl) (hn 5 (by decide)) [0, 1, 2, 3, 4] rfl ⟨⟨show (4 : Nat) ≠ 5 by decide, Or.inr rfl⟩, ⟨⟨show (0 : Nat) ≠ 5 by decide, Or.inl (show (0 : Nat) + 1 ≠ 5 by decide)⟩, ⟨⟨show (1 : Nat) ≠ 5 by decide, Or.inl (show (1 : Nat) + 1 ≠ 5 by decide)⟩, ⟨⟨show (2 : Nat) ≠ 5 by decide, Or.inl (show (2 : Nat) + 1 ≠ 5 by decide)⟩, ⟨⟨show (3 : Nat) ≠ 5 by decide, Or.inl (show (3 : Nat) + 1 ≠ 5 by decide)⟩, trivial⟩⟩⟩⟩⟩ rfl ?_
    exact j_sub [2, 3, 4, 5, 1, 0] rfl (hb21 x0 x1 x2 x3 (0 : Int32) x2 h)
  · refine j_aload_n (q := 8) hx (dc kX8_noteNumber_0 5 rfl) rfl 0 rfl rfl ?_
    refine j_iconst (q := 9) (v := (1 : Int32)) hx (dc kX8_noteNumber_0 6 rfl) (by decide) rfl ?_
    refine j_iload_n (q := 10) hx (dc kX8_noteNumber_0 7 rfl) rfl 2 rfl rfl ?_
    refine j_iconst (q := 11) (v := (0 : Int32)) hx (dc kX8_noteNumber_0 8 rfl) (by decide) rfl ?_
    refine w_cVVW (q := 14) (As := [.int (1 : Int32), .int x2, .int (0 : Int32)]) (st := []) hx (dc kX8_noteNumber_0 9 rfl) cf8 (by decide) rfl (cI _ my_X8_note lm_X8_62 (by decide)) vs_X8_note rfl (fun u hu => sX8_note _ _ _ _ _ _ _ _ hu) (fun e => ite_ne (by unfold mX8_note at e; exact e)) (Nat.zero_le _) rfl (fun h6 => ?_)
    exact r_vW hx hR (dc kX8_noteNumber_0 10 rfl)

set_option maxHeartbeats 4000000 in
set_option maxRecDepth 100000 in
theorem sJ1_canEncode_9a6ad (l : Launch) (w : Wd) (x0 : Int32) (h : Hp) (u : Int32) (hK : mJ1_canEncode_9a6ad x0 = some u) : M1 l w mi_J1_canEncode_9a6ad 1 [.int x0] h h (some (.int u)) := by
  refine M1.of (own := RJ1) (T := fun _ r => r = u) hK (by decide +kernel) rfl (by first | (simp only [lg_lenR, lg_lenI, lg_lenL, lg_len0]; decide) | decide) (fun x hx hnl hhf hl hw hret hnm hQ h0e => ⟨?_, rfl⟩)
  subst hw
  subst hl
  have hR : Rt x h h (some (.int u)) ((some .boolean)) := ⟨h0e, hhf, hret, hQ⟩
  have hn : ∀ i, i < 1 → i < x.2.2.1.1.1 := fun i hi => by rw [hnl]; exact hi
  have e0 : lv_args 0 [.int x0] = [(0, .int x0)] := by simp only [lv_argsR, lv_argsI, lv_argsL, lv_args0]
  rw [e0]
  unfold mJ1_canEncode_9a6ad
  refine j_iload_n (q := 1) hx (dc kJ1_canEncode_9a6ad_0 0 rfl) rfl 0 rfl rfl ?_
  refine j_if_lt (q := 4) (tgt := 15) hx (dc kJ1_canEncode_9a6ad_0 1 rfl) (by decide) Iff.rfl rfl ?_ ?_
  · refine j_iconst (q := 16) (v := (0 : Int32)) hx (dc kJ1_canEncode_9a6ad_0 7 rfl) (by decide) rfl ?_
    exact r_cR hx (Or.inl rfl) hR (dc kJ1_canEncode_9a6ad_0 8 rfl)
  · refine j_iload_n (q := 5) hx (dc kJ1_canEncode_9a6ad_0 2 rfl) rfl 0 rfl rfl ?_
    refine j_sipush (q := 8) (v := (255 : Int32)) hx (dc kJ1_canEncode_9a6ad_0 3 rfl) (by decide) rfl ?_
    refine j_icmp_gt (q := 11) (tgt := 15) hx (dc kJ1_canEncode_9a6ad_0 4 rfl) (by decide) Iff.rfl rfl ?_ ?_
    · refine j_iconst (q := 16) (v := (0 : Int32)) hx (dc kJ1_canEncode_9a6ad_0 7 rfl) (by decide) rfl ?_
      exact r_cR hx (Or.inl rfl) hR (dc kJ1_canEncode_9a6ad_0 8 rfl)
    · refine j_iconst (q := 12) (v := (1 : Int32)) hx (dc kJ1_canEncode_9a6ad_0 5 rfl) (by decide) rfl ?_
      refine j_goto (q := 16) hx (dc kJ1_canEncode_9a6ad_0 6 rfl) (by decide) ?_
      exact r_cR hx (Or.inr rfl) hR (dc kJ1_canEncode_9a6ad_0 8 rfl)

set_option maxHeartbeats 4000000 in
set_option maxRecDepth 100000 in
theorem sJ1_indexOfChar_4cfef (l : Launch) (w : Wd) (x0 : Nat) (x1 : Int32) (x2 : Int32) (x3 : Int32) (h : Hp) (u : Int32) (hK : mJ1_indexOfChar_4cfef x0 x1 x2 x3 h = some u) : M1 l w mi_J1_indexOfChar_4cfef 1 [vR w x0, .int x1, .int x2, .int x3] h h (some (.int u)) := by
  refine M1.of (own := RJ1) (T := fun _ r => r = u) hK (by decide +kernel) rfl (by first | (simp only [lg_lenR, lg_lenI, lg_lenL, lg_len0]; decide) | decide) (fun x hx hnl hhf hl hw hret hnm hQ h0e => ⟨?_, rfl⟩)
  subst hw
  subst hl
  have hR : Rt x h h (some (.int u)) ((some .int)) := ⟨h0e, hhf, hret, hQ⟩
  have hn : ∀ i, i < 6 → i < x.2.2.1.1.1 := fun i hi => by rw [hnl]; exact hi
  have e0 : lv_args 0 [vR x.2.2.2 x0, .int x1, .int x2, .int x3] = [(0, vR x.2.2.2 x0), (1, .int x1), (2, .int x2), (3, .int x3)] := by simp only [lv_argsR, lv_argsI, lv_argsL, lv_args0]
  rw [e0]
  have hb7 : ∀ (x0 : Nat) (x3 : Int32) (x4 : Int32) (x5 : Int32), J x 7 [(0, vR x.2.2.2 x0), (3, .int x3), (4, .int x4), (5, .int x5)] [] h (mJ1_indexOfChar_4cfef_l7 x0 x3 x4 x5 h) (fun r => r = u) := by
    intro x0 x3 x4 x5
    have hB : ∀ (x5 : Int32), J x 7 [(0, vR x.2.2.2 x0), (3, .int x3), (4, .int x4), (5, .int x5)] [] h (mJ1_indexOfChar_4cfef_l7f x0 x3 x4 h x5) (TLo (S := Int32) x 7 (fun s => [(0, vR x.2.2.2 x0), (3, .int x3), (4, .int x4), (5, .int s)]) [] (fun s => h) (fun r => r = u)) := by
      intro x5
      unfold mJ1_indexOfChar_4cfef_l7f
      refine j_iload (q := 9) hx (dc kJ1_indexOfChar_4cfef_0 5 rfl) 3 rfl rfl ?_
      refine j_iload_n (q := 10) hx (dc kJ1_indexOfChar_4cfef_0 6 rfl) rfl 1 rfl rfl ?_
      refine j_icmp_geS (q := 13) (tgt := 31) hx (dc kJ1_indexOfChar_4cfef_0 7 rfl) (by decide) rfl ?_ ?_
      · refine j_exit ?_
        refine j_iconst (q := 32) (v := (-1 : Int32)) hx (dc kJ1_indexOfChar_4cfef_0 17 rfl) (by decide) rfl ?_
        exact r_iR hx hR (dc kJ1_indexOfChar_4cfef_0 18 rfl)
      · refine j_aload_n (q := 14) hx (dc kJ1_indexOfChar_4cfef_0 8 rfl) rfl 0 rfl rfl ?_
        refine j_iload (q := 16) hx (dc kJ1_indexOfChar_4cfef_0 9 rfl) 3 rfl rfl ?_
        refine j_bLd (q := 17) hx (dc kJ1_indexOfChar_4cfef_0 10 rfl) rfl (fun v1 => ?_)
        refine j_iload (q := 19) hx (dc kJ1_indexOfChar_4cfef_0 11 rfl) 2 rfl rfl ?_
        refine j_icmp_neS (q := 22) (tgt := 25) hx (dc kJ1_indexOfChar_4cfef_0 12 rfl) (by decide) rfl ?_ ?_
        · refine j_iinc (q := 28) (l2 := [(0, vR x.2.2.2 x0), (3, .int x3), (4, .int x4)]) hx (dc kJ1_indexOfChar_4cfef_0 15 rfl) 3 rfl (v := (1 : Int32)) (by decide) (hn 5 (by decide)) [0, 1, 2] rfl ⟨⟨show (0 : Nat) ≠ 5 by decide, Or.inl (show (0 : Nat) + 1 ≠ 5 by decide)⟩, ⟨⟨show (3 : Nat) ≠ 5 by decide, Or.inl (show (3 : Nat) + 1 ≠ 5 by decide)⟩, ⟨⟨show (4 : Nat) ≠ 5 by decide, Or.inr rfl⟩, trivial⟩⟩⟩ rfl ?_
          refine j_goto (q := 7) hx (dc kJ1_indexOfChar_4cfef_0 16 rfl) (by decide) ?_
          exact j_back [1, 2, 3, 0] (x5 + (1 : Int32)) rfl rfl
        · refine j_exit ?_
          refine j_iload (q := 24) hx (dc kJ1_indexOfChar_4cfef_0 13 rfl) 3 rfl rfl ?_
          exact r_iR hx hR (dc kJ1_indexOfChar_4cfef_0 14 rfl)
    exact j_loop (S := Int32) (lvf := fun s => [(0, vR x.2.2.2 x0), (3, .int x3), (4, .int x4), (5, .int s)]) (hpf := fun s => h) (f := (fun s : Int32 => mJ1_indexOfChar_4cfef_l7f x0 x3 x4 h s)) (fun s => hB s) x5
  unfold mJ1_indexOfChar_4cfef
  refine j_iload_n (q := 1) hx (dc kJ1_indexOfChar_4cfef_0 0 rfl) rfl 1 rfl rfl ?_
  refine j_i2b (q := 2) hx (dc kJ1_indexOfChar_4cfef_0 1 rfl) rfl ?_
  refine j_istore (q := 4) (i := 4) (l2 := [(0, vR x.2.2.2 x0), (2, .int x2), (3, .int x3)]) hx (dc kJ1_indexOfChar_4cfef_0 2 rfl) (hn 4 (by decide)) [0, 2, 3] rfl ⟨⟨show (0 : Nat) ≠ 4 by decide, Or.inl (show (0 : Nat) + 1 ≠ 4 by decide)⟩, ⟨⟨show (2 : Nat) ≠ 4 by decide, Or.inl (show (2 : Nat) + 1 ≠ 4 by decide)⟩, ⟨⟨show (3 : Nat) ≠ 4 by decide, Or.inr rfl⟩, trivial⟩⟩⟩ rfl ?_
  refine j_iload_n (q := 5) hx (dc kJ1_indexOfChar_4cfef_0 3 rfl) rfl 2 rfl rfl ?_
  refine j_istore (q := 7) (i := 5) (l2 := [(4, .int x1.toInt8.toInt32), (0, vR x.2.2.2 x0), (3, .int x3)]) hx (dc kJ1_indexOfChar_4cfef_0 4 rfl) (hn 5 (by decide)) [0, 1, 3] rfl ⟨⟨show (4 : Nat) ≠ 5 by decide, Or.inr rfl⟩, ⟨⟨show (0 : Nat) ≠ 5 by decide, Or.inl (show (0 : Nat) + 1 ≠ 5 by decide)⟩, ⟨⟨show (3 : Nat) ≠ 5 by decide, Or.inl (show (3 : Nat) + 1 ≠ 5 by decide)⟩, trivial⟩⟩⟩ rfl ?_
  exact j_sub [2, 3, 1, 0] rfl (hb7 x0 x3 x1.toInt8.toInt32 x2)

set_option maxHeartbeats 4000000 in
set_option maxRecDepth 100000 in
theorem sJ1_indexOf_4cfef (l : Launch) (w : Wd) (x0 : Nat) (x1 : Int32) (x2 : Int32) (x3 : Int32) (h : Hp) (u : Int32) (hK : mJ1_indexOf_4cfef x0 x1 x2 x3 h = some u) : M1 l w mi_J1_indexOf_4cfef 2 [vR w x0, .int x1, .int x2, .int x3] h h (some (.int u)) := by
  refine M1.of (own := RJ1) (T := fun _ r => r = u) hK (by decide +kernel) rfl (by first | (simp only [lg_lenR, lg_lenI, lg_lenL, lg_len0]; decide) | decide) (fun x hx hnl hhf hl hw hret hnm hQ h0e => ⟨?_, rfl⟩)
  subst hw
  subst hl
  have hR : Rt x h h (some (.int u)) ((some .int)) := ⟨h0e, hhf, hret, hQ⟩
  have hn : ∀ i, i < 4 → i < x.2.2.1.1.1 := fun i hi => by rw [hnl]; exact hi
  have e0 : lv_args 0 [vR x.2.2.2 x0, .int x1, .int x2, .int x3] = [(0, vR x.2.2.2 x0), (1, .int x1), (2, .int x2), (3, .int x3)] := by simp only [lv_argsR, lv_argsI, lv_argsL, lv_args0]
  rw [e0]
  unfold mJ1_indexOf_4cfef
  refine j_iload_n (q := 1) hx (dc kJ1_indexOf_4cfef_0 0 rfl) rfl 1 rfl rfl ?_
  refine w_cSIR (q := 4) (As := [.int x1]) (st := []) hx (dc kJ1_indexOf_4cfef_0 1 rfl) (cI _ my_J1_canEncode_9a6ad lm_J1_88 (by decide)) st_J1_canEncode_9a6ad rfl (fun u hu => sJ1_canEncode_9a6ad _ _ _ _ _ hu) (Nat.zero_le _) rfl (fun v1 => ?_)
  refine j_if_neS (q := 7) (tgt := 9) hx (dc kJ1_indexOf_4cfef_0 2 rfl) (by decide) rfl ?_ ?_
  · refine j_iload_n (q := 10) hx (dc kJ1_indexOf_4cfef_0 5 rfl) rfl 2 rfl rfl ?_
    refine j_iconst (q := 11) (v := (0 : Int32)) hx (dc kJ1_indexOf_4cfef_0 6 rfl) (by decide) rfl ?_
    refine w_mmax (q := 14) hx (dc kJ1_indexOf_4cfef_0 7 rfl) lm_J1_92 ms_mmax ms_init mc_mmax (by decide) (Nat.zero_le _) rfl ?_
    refine j_istore_n (q := 15) (i := 2) (l2 := [(0, vR x.2.2.2 x0), (1, .int x1), (3, .int x3)]) hx (dc kJ1_indexOf_4cfef_0 8 rfl) rfl (hn 2 (by decide)) [0, 1, 3] rfl ⟨⟨show (0 : Nat) ≠ 2 by decide, Or.inl (show (0 : Nat) + 1 ≠ 2 by decide)⟩, ⟨⟨show (1 : Nat) ≠ 2 by decide, Or.inr rfl⟩, ⟨⟨show (3 : Nat) ≠ 2 by decide, Or.inl (show (3 : Nat) + 1 ≠ 2 by decide)⟩, trivial⟩⟩⟩ rfl ?_
    refine j_iload_n (q := 16) hx (dc kJ1_indexOf_4cfef_0 9 rfl) rfl 3 rfl rfl ?_
    refine j_aload_n (q := 17) hx (dc kJ1_indexOf_4cfef_0 10 rfl) rfl 1 rfl rfl ?_
    refine j_bLn (q := 18) hx (dc kJ1_indexOf_4cfef_0 11 rfl) rfl (fun v3 => ?_)
    refine w_mmin (q := 21) hx (dc kJ1_indexOf_4cfef_0 12 rfl) lm_J1_38 ms_mmin ms_init mc_mmin (by decide) (Nat.zero_le _) rfl ?_
    refine j_istore_n (q := 22) (i := 3) (l2 := [(2, .int (mmax x2 (0 : Int32))), (0, vR x.2.2.2 x0), (1, .int x1)]) hx (dc kJ1_indexOf_4cfef_0 13 rfl) rfl (hn 3 (by decide)) [0, 1, 2] rfl ⟨⟨show (2 : Nat) ≠ 3 by decide, Or.inr rfl⟩, ⟨⟨show (0 : Nat) ≠ 3 by decide, Or.inl (show (0 : Nat) + 1 ≠ 3 by decide)⟩, ⟨⟨show (1 : Nat) ≠ 3 by decide, Or.inl (show (1 : Nat) + 1 ≠ 3 by decide)⟩, trivial⟩⟩⟩ rfl ?_
    refine j_iload_n (q := 23) hx (dc kJ1_indexOf_4cfef_0 14 rfl) rfl 1 rfl rfl ?_
    refine j_iload_n (q := 24) hx (dc kJ1_indexOf_4cfef_0 15 rfl) rfl 0 rfl rfl ?_
    refine j_icmp_lt (q := 27) (tgt := 29) hx (dc kJ1_indexOf_4cfef_0 16 rfl) (by decide) Iff.rfl rfl ?_ ?_
    · refine j_aload_n (q := 30) hx (dc kJ1_indexOf_4cfef_0 19 rfl) rfl 2 rfl rfl ?_
      refine j_iload_n (q := 31) hx (dc kJ1_indexOf_4cfef_0 20 rfl) rfl 3 rfl rfl ?_
      refine j_iload_n (q := 32) hx (dc kJ1_indexOf_4cfef_0 21 rfl) rfl 1 rfl rfl ?_
      refine j_iload_n (q := 33) hx (dc kJ1_indexOf_4cfef_0 22 rfl) rfl 0 rfl rfl ?_
      refine w_cSIR (q := 36) (As := [vR x.2.2.2 x0, .int x1, .int (mmax x2 (0 : Int32)), .int (mmin x3 v3)]) (st := []) hx (dc kJ1_indexOf_4cfef_0 23 rfl) (cI _ my_J1_indexOfChar_4cfef lm_J1_95 (by decide)) st_J1_indexOfChar_4cfef rfl (fun u hu => sJ1_indexOfChar_4cfef _ _ _ _ _ _ _ _ hu) (Nat.zero_le _) rfl (fun v4 => ?_)
      exact r_iR hx hR (dc kJ1_indexOf_4cfef_0 24 rfl)
    · refine j_iconst (q := 28) (v := (-1 : Int32)) hx (dc kJ1_indexOf_4cfef_0 17 rfl) (by decide) rfl ?_
      exact r_iR hx hR (dc kJ1_indexOf_4cfef_0 18 rfl)
  · refine j_iconst (q := 8) (v := (-1 : Int32)) hx (dc kJ1_indexOf_4cfef_0 3 rfl) (by decide) rfl ?_
    exact r_iR hx hR (dc kJ1_indexOf_4cfef_0 4 rfl)

set_option maxHeartbeats 4000000 in
set_option maxRecDepth 100000 in
theorem sJ0_indexOf_7cf53 (l : Launch) (w : Wd) (x0 : Nat) (x1 : Int32) (x2 : Int32) (h : Hp) (u : Int32) (hK : mJ0_indexOf_7cf53 x0 x1 x2 h = some u) : M1 l w mi_J0_indexOf_7cf53 3 [vR w x0, .int x1, .int x2] h h (some (.int u)) := by
  refine M1.of (own := RJ0) (T := fun _ r => r = u) hK (by decide +kernel) rfl (by first | (simp only [lg_lenR, lg_lenI, lg_lenL, lg_len0]; decide) | decide) (fun x hx hnl hhf hl hw hret hnm hQ h0e => ⟨?_, rfl⟩)
  subst hw
  subst hl
  have hR : Rt x h h (some (.int u)) ((some .int)) := ⟨h0e, hhf, hret, hQ⟩
  have hn : ∀ i, i < 3 → i < x.2.2.1.1.1 := fun i hi => by rw [hnl]; exact hi
  have e0 : lv_args 0 [vR x.2.2.2 x0, .int x1, .int x2] = [(0, vR x.2.2.2 x0), (1, .int x1), (2, .int x2)] := by simp only [lv_argsR, lv_argsI, lv_argsL, lv_args0]
  rw [e0]
  unfold mJ0_indexOf_7cf53
  refine J.ckd fun hck => ?_
  refine j_aload_n (q := 1) hx (dc kJ0_indexOf_7cf53_0 0 rfl) rfl 0 rfl rfl ?_
  refine w_cTIR (q := 4) (As := []) (st := []) hx (dc kJ0_indexOf_7cf53_0 1 rfl) (cI _ my_J0_isLatin1_aae02 lm_J0_492 (by decide)) vs_J0_isLatin1_aae02 rfl (fun u hu => sJ0_isLatin1_aae02 _ _ _ _ _ hu) rfl (fun e => ite_ne (by unfold mJ0_isLatin1_aae02 at e; exact e)) (Nat.zero_le _) rfl (fun v1 => ?_)
  refine j_if_eq (q := 7) (tgt := 23) hx (dc kJ0_indexOf_7cf53_0 2 rfl) (by decide) Iff.rfl rfl ?_ ?_
  · refine j_aload_n (q := 24) hx (dc kJ0_indexOf_7cf53_0 11 rfl) rfl 0 rfl rfl ?_
    refine j_sV (q := 27) hx lsf_J0_9 (dc kJ0_indexOf_7cf53_0 12 rfl) rfl (fun v3 => ?_)
    refine j_iload_n (q := 28) hx (dc kJ0_indexOf_7cf53_0 13 rfl) rfl 1 rfl rfl ?_
    refine j_iload_n (q := 29) hx (dc kJ0_indexOf_7cf53_0 14 rfl) rfl 2 rfl rfl ?_
    refine j_aload_n (q := 30) hx (dc kJ0_indexOf_7cf53_0 15 rfl) rfl 0 rfl rfl ?_
    refine w_cTIR (q := 33) (As := []) (st := [.int x2, .int x1, vR x.2.2.2 v3]) hx (dc kJ0_indexOf_7cf53_0 16 rfl) (cI _ my_J0_length_8abf5 lm_J0_505 (by decide)) vs_J0_length_8abf5 rfl (fun u hu => sJ0_length_8abf5 _ _ _ _ _ hu) rfl (fun e => ite_ne (by unfold mJ0_length_8abf5 at e; exact e)) (sum_le (sum_I (sum_I (sum_R sum_nil))) (by decide)) rfl (fun v4 => ?_)
    exact j_none
  · refine j_aload_n (q := 8) hx (dc kJ0_indexOf_7cf53_0 3 rfl) rfl 0 rfl rfl ?_
    refine j_sV (q := 11) hx lsf_J0_9 (dc kJ0_indexOf_7cf53_0 4 rfl) rfl (fun v6 => ?_)
    refine j_iload_n (q := 12) hx (dc kJ0_indexOf_7cf53_0 5 rfl) rfl 1 rfl rfl ?_
    refine j_iload_n (q := 13) hx (dc kJ0_indexOf_7cf53_0 6 rfl) rfl 2 rfl rfl ?_
    refine j_aload_n (q := 14) hx (dc kJ0_indexOf_7cf53_0 7 rfl) rfl 0 rfl rfl ?_
    refine w_cTIR (q := 17) (As := []) (st := [.int x2, .int x1, vR x.2.2.2 v6]) hx (dc kJ0_indexOf_7cf53_0 8 rfl) (cI _ my_J0_length_8abf5 lm_J0_505 (by decide)) vs_J0_length_8abf5 rfl (fun u hu => sJ0_length_8abf5 _ _ _ _ _ hu) rfl (fun e => ite_ne (by unfold mJ0_length_8abf5 at e; exact e)) (sum_le (sum_I (sum_I (sum_R sum_nil))) (by decide)) rfl (fun v7 => ?_)
    refine w_cSIR (q := 20) (As := [vR x.2.2.2 v6, .int x1, .int x2, .int v7]) (st := []) hx (dc kJ0_indexOf_7cf53_0 9 rfl) (cI _ my_J1_indexOf_4cfef lm_J0_637 (by decide)) st_J1_indexOf_4cfef rfl (fun u hu => sJ1_indexOf_4cfef _ _ _ _ _ _ _ _ hu) (Nat.zero_le _) rfl (fun v9 => ?_)
    refine j_goto (q := 36) hx (dc kJ0_indexOf_7cf53_0 10 rfl) (by decide) ?_
    exact r_iR hx hR (dc kJ0_indexOf_7cf53_0 18 rfl)

set_option maxHeartbeats 4000000 in
set_option maxRecDepth 100000 in
theorem sJ0_indexOf_0f7a4 (l : Launch) (w : Wd) (x0 : Nat) (x1 : Int32) (h : Hp) (u : Int32) (hK : mJ0_indexOf_0f7a4 x0 x1 h = some u) : M1 l w mi_J0_indexOf_0f7a4 4 [vR w x0, .int x1] h h (some (.int u)) := by
  refine M1.of (own := RJ0) (T := fun _ r => r = u) hK (by decide +kernel) rfl (by first | (simp only [lg_lenR, lg_lenI, lg_lenL, lg_len0]; decide) | decide) (fun x hx hnl hhf hl hw hret hnm hQ h0e => ⟨?_, rfl⟩)
  subst hw
  subst hl
  have hR : Rt x h h (some (.int u)) ((some .int)) := ⟨h0e, hhf, hret, hQ⟩
  have hn : ∀ i, i < 2 → i < x.2.2.1.1.1 := fun i hi => by rw [hnl]; exact hi
  have e0 : lv_args 0 [vR x.2.2.2 x0, .int x1] = [(0, vR x.2.2.2 x0), (1, .int x1)] := by simp only [lv_argsR, lv_argsI, lv_argsL, lv_args0]
  rw [e0]
  unfold mJ0_indexOf_0f7a4
  refine J.ckd fun hck => ?_
  refine j_aload_n (q := 1) hx (dc kJ0_indexOf_0f7a4_0 0 rfl) rfl 0 rfl rfl ?_
  refine j_iload_n (q := 2) hx (dc kJ0_indexOf_0f7a4_0 1 rfl) rfl 1 rfl rfl ?_
  refine j_iconst (q := 3) (v := (0 : Int32)) hx (dc kJ0_indexOf_0f7a4_0 2 rfl) (by decide) rfl ?_
  refine w_cTIR (q := 6) (As := [.int x1, .int (0 : Int32)]) (st := []) hx (dc kJ0_indexOf_0f7a4_0 3 rfl) (cI _ my_J0_indexOf_7cf53 lm_J0_633 (by decide)) vs_J0_indexOf_7cf53 rfl (fun u hu => sJ0_indexOf_7cf53 _ _ _ _ _ _ _ hu) rfl (fun e => ite_ne (by unfold mJ0_indexOf_7cf53 at e; exact e)) (Nat.zero_le _) rfl (fun v1 => ?_)
  exact r_iR hx hR (dc kJ0_indexOf_0f7a4_0 4 rfl)

set_option maxHeartbeats 4000000 in
set_option maxRecDepth 100000 in
theorem sX8_cutOne (l : Launch) (w : Wd) (x0 : Nat) (x1 : Nat) (x2 : Int32) (x3 : Int32) (h : Hp) (u : (Int32 × Hp)) (hK : mX8_cutOne x0 x1 x2 x3 h = some u) : M1 l w mi_X8_cutOne 5 [vR w x0, vR w x1, .int x2, .int x3] h u.2 (some (.int u.1)) := by
  refine M1.of (own := RX8) (T := fun _ r => r = u) hK (by decide +kernel) rfl (by first | (simp only [lg_lenR, lg_lenI, lg_lenL, lg_len0]; decide) | decide) (fun x hx hnl hhf hl hw hret hnm hQ h0e => ⟨?_, rfl⟩)
  subst hw
  subst hl
  have hR : Rt x h u.2 (some (.int u.1)) ((some .int)) := ⟨h0e, hhf, hret, hQ⟩
  have hn : ∀ i, i < 5 → i < x.2.2.1.1.1 := fun i hi => by rw [hnl]; exact hi
  have e0 : lv_args 0 [vR x.2.2.2 x0, vR x.2.2.2 x1, .int x2, .int x3] = [(0, vR x.2.2.2 x0), (1, vR x.2.2.2 x1), (2, .int x2), (3, .int x3)] := by simp only [lv_argsR, lv_argsI, lv_argsL, lv_args0]
  rw [e0]
  have hb96 : ∀ (x2 : Int32) (t0 : Nat) (t1 : Int32) (h : Hp), J x 96 [(2, .int x2)] [.int t1, vR x.2.2.2 t0] h (mX8_cutOne_b96 x2 t0 t1 h) (fun r => r = u) := by
    intro x2 t0 t1 h
    unfold mX8_cutOne_b96
    refine j_iload_n (q := 97) hx (dc kX8_cutOne_0 53 rfl) rfl 0 rfl rfl ?_
    refine j_iconst (q := 98) (v := (0 : Int32)) hx (dc kX8_cutOne_0 54 rfl) (by decide) rfl ?_
    refine w_cVVW (q := 101) (As := [.int t1, .int x2, .int (0 : Int32)]) (st := []) hx (dc kX8_cutOne_0 55 rfl) cf8 (by decide) rfl (cI _ my_X8_note lm_X8_62 (by decide)) vs_X8_note rfl (fun u hu => sX8_note _ _ _ _ _ _ _ _ hu) (fun e => ite_ne (by unfold mX8_note at e; exact e)) (Nat.zero_le _) rfl (fun h4 => ?_)
    refine j_iload_n (q := 102) hx (dc kX8_cutOne_0 56 rfl) rfl 0 rfl rfl ?_
    refine j_iconst (q := 103) (v := (1 : Int32)) hx (dc kX8_cutOne_0 57 rfl) (by decide) rfl ?_
    refine j_iadd (q := 104) hx (dc kX8_cutOne_0 58 rfl) rfl ?_
    exact r_iW hx hR (dc kX8_cutOne_0 59 rfl)
  have hb83 : ∀ (x0 : Nat) (x2 : Int32) (x3 : Int32) (t0 : Int32) (h : Hp), J x 83 [(0, vR x.2.2.2 x0), (2, .int x2), (3, .int x3)] [.int t0] h (mX8_cutOne_b83 x0 x2 x3 t0 h) (fun r => r = u) := by
    intro x0 x2 x3 t0 h
    unfold mX8_cutOne_b83
    refine j_istore (q := 85) (i := 4) (l2 := [(0, vR x.2.2.2 x0), (2, .int x2), (3, .int x3)]) hx (dc kX8_cutOne_0 46 rfl) (hn 4 (by decide)) [0, 1, 2] rfl ⟨⟨show (0 : Nat) ≠ 4 by decide, Or.inl (show (0 : Nat) + 1 ≠ 4 by decide)⟩, ⟨⟨show (2 : Nat) ≠ 4 by decide, Or.inl (show (2 : Nat) + 1 ≠ 4 by decide)⟩, ⟨⟨show (3 : Nat) ≠ 4 by decide, Or.inr rfl⟩, trivial⟩⟩⟩ rfl ?_
    refine j_aload_n (q := 86) hx (dc kX8_cutOne_0 47 rfl) rfl 1 rfl rfl ?_
    refine j_iload (q := 88) hx (dc kX8_cutOne_0 48 rfl) 0 rfl rfl ?_
    refine j_if_eq (q := 91) (tgt := 95) hx (dc kX8_cutOne_0 49 rfl) (by decide) Iff.rfl rfl ?_ ?_
    · refine j_iconst (q := 96) (v := (1 : Int32)) hx (dc kX8_cutOne_0 52 rfl) (by decide) rfl ?_
      exact j_sub [2] rfl (hb96 x2 x0 (1 : Int32) h)
    · refine j_iload_n (q := 92) hx (dc kX8_cutOne_0 50 rfl) rfl 3 rfl rfl ?_
      refine j_goto (q := 96) hx (dc kX8_cutOne_0 51 rfl) (by decide) ?_
      exact j_sub [2] rfl (hb96 x2 x0 x3 h)
  have hb68 : ∀ (x0 : Nat) (x2 : Int32) (x3 : Int32) (h : Hp), J x 68 [(0, vR x.2.2.2 x0), (2, .int x2), (3, .int x3)] [] h (mX8_cutOne_b68 x0 x2 x3 h) (fun r => r = u) := by
    intro x0 x2 x3 h
    unfold mX8_cutOne_b68
    refine j_ldcS (a := 1) (q := 70) hx (show (_, _, "!&|(),;", _) ∈ strs0 by decide +kernel) (dc kX8_cutOne_0 38 rfl) rfl ?_
    refine j_iload_n (q := 71) hx (dc kX8_cutOne_0 39 rfl) rfl 2 rfl rfl ?_
    refine j_i2c (q := 72) hx (dc kX8_cutOne_0 40 rfl) rfl ?_
    refine w_cTIR (q := 75) (As := [.int (i2cV x3)]) (st := []) hx (dc kX8_cutOne_0 41 rfl) (cI _ my_J0_indexOf_0f7a4 lm_X8_79 (by decide)) vs_J0_indexOf_0f7a4 rfl (fun u hu => sJ0_indexOf_0f7a4 _ _ _ _ _ _ hu) rfl (fun e => ite_ne (by unfold mJ0_indexOf_0f7a4 at e; exact e)) (Nat.zero_le _) rfl (fun v1 => ?_)
    refine j_if_lt (q := 78) (tgt := 82) hx (dc kX8_cutOne_0 42 rfl) (by decide) Iff.rfl rfl ?_ ?_
    · refine j_iconst (q := 83) (v := (0 : Int32)) hx (dc kX8_cutOne_0 45 rfl) (by decide) rfl ?_
      exact hb83 x0 x2 x3 (0 : Int32) h
    · refine j_iconst (q := 79) (v := (1 : Int32)) hx (dc kX8_cutOne_0 43 rfl) (by decide) rfl ?_
      refine j_goto (q := 83) hx (dc kX8_cutOne_0 44 rfl) (by decide) ?_
      exact hb83 x0 x2 x3 (1 : Int32) h
  have hb34 : ∀ (x0 : Nat) (x1 : Nat) (x2 : Int32) (x3 : Int32) (h : Hp), J x 34 [(0, vR x.2.2.2 x0), (1, vR x.2.2.2 x1), (2, .int x2), (3, .int x3)] [] h (mX8_cutOne_b34 x0 x1 x2 x3 h) (fun r => r = u) := by
    intro x0 x1 x2 x3 h
    unfold mX8_cutOne_b34
    refine j_iload_n (q := 35) hx (dc kX8_cutOne_0 19 rfl) rfl 3 rfl rfl ?_
    refine j_bipush (q := 37) (v := (48 : Int32)) hx (dc kX8_cutOne_0 20 rfl) (by decide) rfl ?_
    refine j_icmp_lt (q := 40) (tgt := 68) hx (dc kX8_cutOne_0 21 rfl) (by decide) Iff.rfl rfl ?_ ?_
    · exact j_sub [0, 2, 3] rfl (hb68 x0 x2 x3 h)
    · refine j_iload_n (q := 41) hx (dc kX8_cutOne_0 22 rfl) rfl 3 rfl rfl ?_
      refine j_bipush (q := 43) (v := (57 : Int32)) hx (dc kX8_cutOne_0 23 rfl) (by decide) rfl ?_
      refine j_icmp_gt (q := 46) (tgt := 68) hx (dc kX8_cutOne_0 24 rfl) (by decide) Iff.rfl rfl ?_ ?_
      · exact j_sub [0, 2, 3] rfl (hb68 x0 x2 x3 h)
      · refine j_aload_n (q := 47) hx (dc kX8_cutOne_0 25 rfl) rfl 1 rfl rfl ?_
        refine j_iload_n (q := 48) hx (dc kX8_cutOne_0 26 rfl) rfl 2 rfl rfl ?_
        refine j_bipush (q := 50) (v := (48 : Int32)) hx (dc kX8_cutOne_0 27 rfl) (by decide) rfl ?_
        refine j_bipush (q := 52) (v := (57 : Int32)) hx (dc kX8_cutOne_0 28 rfl) (by decide) rfl ?_
        refine w_cSIR (q := 55) (As := [vR x.2.2.2 x1, .int x2, .int (48 : Int32), .int (57 : Int32)]) (st := []) hx (dc kX8_cutOne_0 29 rfl) (cI _ my_X8_runEnd lm_X8_66 (by decide)) st_X8_runEnd rfl (fun u hu => sX8_runEnd _ _ _ _ _ _ _ _ hu) (Nat.zero_le _) rfl (fun v5 => ?_)
        refine j_istore (q := 57) (i := 4) (l2 := [(0, vR x.2.2.2 x0), (1, vR x.2.2.2 x1), (2, .int x2)]) hx (dc kX8_cutOne_0 30 rfl) (hn 4 (by decide)) [0, 1, 2] rfl ⟨⟨show (0 : Nat) ≠ 4 by decide, Or.inl (show (0 : Nat) + 1 ≠ 4 by decide)⟩, ⟨⟨show (1 : Nat) ≠ 4 by decide, Or.inl (show (1 : Nat) + 1 ≠ 4 by decide)⟩, ⟨⟨show (2 : Nat) ≠ 4 by decide, Or.inl (show (2 : Nat) + 1 ≠ 4 by decide)⟩, trivial⟩⟩⟩ rfl ?_
        refine j_aload_n (q := 58) hx (dc kX8_cutOne_0 31 rfl) rfl 1 rfl rfl ?_
        refine j_aload_n (q := 59) hx (dc kX8_cutOne_0 32 rfl) rfl 2 rfl rfl ?_
        refine j_iload_n (q := 60) hx (dc kX8_cutOne_0 33 rfl) rfl 3 rfl rfl ?_
        refine j_iload (q := 62) hx (dc kX8_cutOne_0 34 rfl) 0 rfl rfl ?_
        refine w_cVVW (q := 65) (As := [vR x.2.2.2 x1, .int x2, .int v5]) (st := []) hx (dc kX8_cutOne_0 35 rfl) cf8 (by decide) rfl (cI _ my_X8_noteNumber lm_X8_74 (by decide)) vs_X8_noteNumber rfl (fun u hu => sX8_noteNumber _ _ _ _ _ _ _ _ hu) (fun e => ite_ne (by unfold mX8_noteNumber at e; exact e)) (Nat.zero_le _) rfl (fun h8 => ?_)
        refine j_iload (q := 67) hx (dc kX8_cutOne_0 36 rfl) 0 rfl rfl ?_
        exact r_iW hx hR (dc kX8_cutOne_0 37 rfl)
  unfold mX8_cutOne
  refine J.ckd fun hck => ?_
  refine j_iload_n (q := 1) hx (dc kX8_cutOne_0 0 rfl) rfl 3 rfl rfl ?_
  refine j_bipush (q := 3) (v := (97 : Int32)) hx (dc kX8_cutOne_0 1 rfl) (by decide) rfl ?_
  refine j_icmp_lt (q := 6) (tgt := 34) hx (dc kX8_cutOne_0 2 rfl) (by decide) Iff.rfl rfl ?_ ?_
  · exact hb34 x0 x1 x2 x3 h
  · refine j_iload_n (q := 7) hx (dc kX8_cutOne_0 3 rfl) rfl 3 rfl rfl ?_
    refine j_bipush (q := 9) (v := (122 : Int32)) hx (dc kX8_cutOne_0 4 rfl) (by decide) rfl ?_
    refine j_icmp_gt (q := 12) (tgt := 34) hx (dc kX8_cutOne_0 5 rfl) (by decide) Iff.rfl rfl ?_ ?_
    · exact hb34 x0 x1 x2 x3 h
    · refine j_aload_n (q := 13) hx (dc kX8_cutOne_0 6 rfl) rfl 1 rfl rfl ?_
      refine j_iload_n (q := 14) hx (dc kX8_cutOne_0 7 rfl) rfl 2 rfl rfl ?_
      refine j_bipush (q := 16) (v := (97 : Int32)) hx (dc kX8_cutOne_0 8 rfl) (by decide) rfl ?_
      refine j_bipush (q := 18) (v := (122 : Int32)) hx (dc kX8_cutOne_0 9 rfl) (by decide) rfl ?_
      refine w_cSIR (q := 21) (As := [vR x.2.2.2 x1, .int x2, .int (97 : Int32), .int (122 : Int32)]) (st := []) hx (dc kX8_cutOne_0 10 rfl) (cI _ my_X8_runEnd lm_X8_66 (by decide)) st_X8_runEnd rfl (fun u hu => sX8_runEnd _ _ _ _ _ _ _ _ hu) (Nat.zero_le _) rfl (fun v9 => ?_)
      refine j_istore (q := 23) (i := 4) (l2 := [(0, vR x.2.2.2 x0), (1, vR x.2.2.2 x1), (2, .int x2)]) hx (dc kX8_cutOne_0 11 rfl) (hn 4 (by decide)) [0, 1, 2] rfl ⟨⟨show (0 : Nat) ≠ 4 by decide, Or.inl (show (0 : Nat) + 1 ≠ 4 by decide)⟩, ⟨⟨show (1 : Nat) ≠ 4 by decide, Or.inl (show (1 : Nat) + 1 ≠ 4 by decide)⟩, ⟨⟨show (2 : Nat) ≠ 4 by decide, Or.inl (show (2 : Nat) + 1 ≠ 4 by decide)⟩, trivial⟩⟩⟩ rfl ?_
      refine j_aload_n (q := 24) hx (dc kX8_cutOne_0 12 rfl) rfl 1 rfl rfl ?_
      refine j_aload_n (q := 25) hx (dc kX8_cutOne_0 13 rfl) rfl 2 rfl rfl ?_
      refine j_iload_n (q := 26) hx (dc kX8_cutOne_0 14 rfl) rfl 3 rfl rfl ?_
      refine j_iload (q := 28) hx (dc kX8_cutOne_0 15 rfl) 0 rfl rfl ?_
      refine w_cVVW (q := 31) (As := [vR x.2.2.2 x1, .int x2, .int v9]) (st := []) hx (dc kX8_cutOne_0 16 rfl) cf8 (by decide) rfl (cI _ my_X8_noteWord lm_X8_70 (by decide)) vs_X8_noteWord rfl (fun u hu => sX8_noteWord _ _ _ _ _ _ _ _ hu) (fun e => ite_ne (by unfold mX8_noteWord at e; exact e)) (Nat.zero_le _) rfl (fun h12 => ?_)
      refine j_iload (q := 33) hx (dc kX8_cutOne_0 17 rfl) 0 rfl rfl ?_
      exact r_iW hx hR (dc kX8_cutOne_0 18 rfl)

set_option maxHeartbeats 4000000 in
set_option maxRecDepth 100000 in
theorem sX8_split (l : Launch) (w : Wd) (x0 : Nat) (x1 : Nat) (h : Hp) (u : Hp) (hK : mX8_split x0 x1 h = some u) : M1 l w mi_X8_split 6 [vR w x0, vR w x1] h u (none) := by
  refine M1.of (own := RX8) (T := fun _ r => r = u) hK (by decide +kernel) rfl (by first | (simp only [lg_lenR, lg_lenI, lg_lenL, lg_len0]; decide) | decide) (fun x hx hnl hhf hl hw hret hnm hQ h0e => ⟨?_, rfl⟩)
  subst hw
  subst hl
  have hR : Rt x h u (none) (none) := ⟨h0e, hhf, hret, hQ⟩
  have hn : ∀ i, i < 5 → i < x.2.2.1.1.1 := fun i hi => by rw [hnl]; exact hi
  have e0 : lv_args 0 [vR x.2.2.2 x0, vR x.2.2.2 x1] = [(0, vR x.2.2.2 x0), (1, vR x.2.2.2 x1)] := by simp only [lv_argsR, lv_argsI, lv_argsL, lv_args0]
  rw [e0]
  have hb66 : ∀ (x0 : Nat) (x1 : Nat) (h : Hp), J x 66 [(0, vR x.2.2.2 x0), (1, vR x.2.2.2 x1)] [] h (mX8_split_b66 x0 x1 h) (fun r => r = u) := by
    intro x0 x1 h
    unfold mX8_split_b66
    refine j_aload_n (q := 67) hx (dc kX8_split_0 34 rfl) rfl 0 rfl rfl ?_
    refine j_iconst (q := 68) (v := (0 : Int32)) hx (dc kX8_split_0 35 rfl) (by decide) rfl ?_
    refine j_aload_n (q := 69) hx (dc kX8_split_0 36 rfl) rfl 1 rfl rfl ?_
    refine w_gI (q := 72) hx (dc kX8_split_0 37 rfl) ff_X7_1 lk_X8_52 rfl (fun v2 => ?_)
    refine j_iconst (q := 73) (v := (0 : Int32)) hx (dc kX8_split_0 38 rfl) (by decide) rfl ?_
    refine w_cVVW (q := 76) (As := [.int (0 : Int32), .int v2, .int (0 : Int32)]) (st := []) hx (dc kX8_split_0 39 rfl) cf8 (by decide) rfl (cI _ my_X8_note lm_X8_62 (by decide)) vs_X8_note rfl (fun u hu => sX8_note _ _ _ _ _ _ _ _ hu) (fun e => ite_ne (by unfold mX8_note at e; exact e)) (Nat.zero_le _) rfl (fun h4 => ?_)
    exact r_vW hx hR (dc kX8_split_0 40 rfl)
  have hb9 : ∀ (x0 : Nat) (x1 : Nat) (x2 : Int32) (x3 : Int32) (h : Hp), J x 9 [(0, vR x.2.2.2 x0), (1, vR x.2.2.2 x1), (2, .int x2), (3, .int x3)] [] h (mX8_split_l9 x0 x1 x2 x3 h) (fun r => r = u) := by
    intro x0 x1 x2 x3 h
    have hB : ∀ (x2 : Int32) (x3 : Int32) (h : Hp), J x 9 [(0, vR x.2.2.2 x0), (1, vR x.2.2.2 x1), (2, .int x2), (3, .int x3)] [] h (mX8_split_l9f x0 x1 x2 x3 h) (TLo (S := (Int32 × Int32 × Hp)) x 9 (fun s => [(0, vR x.2.2.2 x0), (1, vR x.2.2.2 x1), (2, .int s.1), (3, .int s.2.1)]) [] (fun s => s.2.2) (fun r => r = u)) := by
      intro x2 x3 h
      have hb60 : ∀ (x0 : Nat) (x1 : Nat) (x2 : Int32) (x3 : Int32) (h : Hp), J x 60 [(0, vR x.2.2.2 x0), (1, vR x.2.2.2 x1), (2, .int x2), (3, .int x3)] [] h (mX8_split_b60 x0 x1 x2 x3 h) (TLo (S := (Int32 × Int32 × Hp)) x 9 (fun s => [(0, vR x.2.2.2 x0), (1, vR x.2.2.2 x1), (2, .int s.1), (3, .int s.2.1)]) [] (fun s => s.2.2) (fun r => r = u)) := by
        intro x0 x1 x2 x3 h
        unfold mX8_split_b60
        refine j_iinc (q := 63) (l2 := [(0, vR x.2.2.2 x0), (1, vR x.2.2.2 x1), (2, .int x2)]) hx (dc kX8_split_0 32 rfl) 3 rfl (v := (1 : Int32)) (by decide) (hn 3 (by decide)) [0, 1, 2] rfl ⟨⟨show (0 : Nat) ≠ 3 by decide, Or.inl (show (0 : Nat) + 1 ≠ 3 by decide)⟩, ⟨⟨show (1 : Nat) ≠ 3 by decide, Or.inl (show (1 : Nat) + 1 ≠ 3 by decide)⟩, ⟨⟨show (2 : Nat) ≠ 3 by decide, Or.inr rfl⟩, trivial⟩⟩⟩ rfl ?_
        refine j_goto (q := 9) hx (dc kX8_split_0 33 rfl) (by decide) ?_
        exact j_back [1, 2, 3, 0] (x2, (x3 + (1 : Int32)), h) rfl rfl
      have hb45 : ∀ (x0 : Nat) (x1 : Nat) (x2 : Int32) (x3 : Int32) (h : Hp), J x 45 [(0, vR x.2.2.2 x0), (1, vR x.2.2.2 x1), (2, .int x2), (3, .int x3)] [] h (mX8_split_b45 x0 x1 x2 x3 h) (TLo (S := (Int32 × Int32 × Hp)) x 9 (fun s => [(0, vR x.2.2.2 x0), (1, vR x.2.2.2 x1), (2, .int s.1), (3, .int s.2.1)]) [] (fun s => s.2.2) (fun r => r = u)) := by
        intro x0 x1 x2 x3 h
        unfold mX8_split_b45
        refine j_iinc (q := 48) (l2 := [(0, vR x.2.2.2 x0), (1, vR x.2.2.2 x1), (3, .int x3)]) hx (dc kX8_split_0 24 rfl) 2 rfl (v := (1 : Int32)) (by decide) (hn 2 (by decide)) [0, 1, 3] rfl ⟨⟨show (0 : Nat) ≠ 2 by decide, Or.inl (show (0 : Nat) + 1 ≠ 2 by decide)⟩, ⟨⟨show (1 : Nat) ≠ 2 by decide, Or.inr (vR_cat _ _)⟩, ⟨⟨show (3 : Nat) ≠ 2 by decide, Or.inl (show (3 : Nat) + 1 ≠ 2 by decide)⟩, trivial⟩⟩⟩ rfl ?_
        refine j_goto (q := 60) hx (dc kX8_split_0 25 rfl) (by decide) ?_
        exact j_sub [1, 2, 0, 3] rfl (hb60 x0 x1 (x2 + (1 : Int32)) x3 h)
      unfold mX8_split_l9f
      refine j_iload_n (q := 10) hx (dc kX8_split_0 7 rfl) rfl 3 rfl rfl ?_
      refine j_sipush (q := 13) (v := (480 : Int32)) hx (dc kX8_split_0 8 rfl) (by decide) rfl ?_
      refine j_icmp_geS (q := 16) (tgt := 66) hx (dc kX8_split_0 9 rfl) (by decide) rfl ?_ ?_
      · refine j_exit ?_
        exact j_sub [0, 1] rfl (hb66 x0 x1 h)
      · refine j_iload_n (q := 17) hx (dc kX8_split_0 10 rfl) rfl 2 rfl rfl ?_
        refine j_aload_n (q := 18) hx (dc kX8_split_0 11 rfl) rfl 1 rfl rfl ?_
        refine w_gI (q := 21) hx (dc kX8_split_0 12 rfl) ff_X7_1 lk_X8_52 rfl (fun v5 => ?_)
        refine j_icmp_geS (q := 24) (tgt := 66) hx (dc kX8_split_0 13 rfl) (by decide) rfl ?_ ?_
        · refine j_exit ?_
          exact j_sub [0, 1] rfl (hb66 x0 x1 h)
        · refine j_aload_n (q := 25) hx (dc kX8_split_0 14 rfl) rfl 1 rfl rfl ?_
          refine j_iload_n (q := 26) hx (dc kX8_split_0 15 rfl) rfl 2 rfl rfl ?_
          refine w_cVIR (q := 29) (As := [.int x2]) (st := []) hx (dc kX8_split_0 16 rfl) cf7 (by decide) rfl (cI _ my_X7_read lm_X8_55 (by decide)) vs_X7_read rfl (fun u hu => sX7_read _ _ _ _ _ _ hu) (fun e => ite_ne (by unfold mX7_read at e; exact e)) (Nat.zero_le _) rfl (fun v6 => ?_)
          refine j_istore (q := 31) (i := 4) (l2 := [(0, vR x.2.2.2 x0), (1, vR x.2.2.2 x1), (2, .int x2), (3, .int x3)]) hx (dc kX8_split_0 17 rfl) (hn 4 (by decide)) [0, 1, 2, 3] rfl ⟨⟨show (0 : Nat) ≠ 4 by decide, Or.inl (show (0 : Nat) + 1 ≠ 4 by decide)⟩, ⟨⟨show (1 : Nat) ≠ 4 by decide, Or.inl (show (1 : Nat) + 1 ≠ 4 by decide)⟩, ⟨⟨show (2 : Nat) ≠ 4 by decide, Or.inl (show (2 : Nat) + 1 ≠ 4 by decide)⟩, ⟨⟨show (3 : Nat) ≠ 4 by decide, Or.inr rfl⟩, trivial⟩⟩⟩⟩ rfl ?_
          refine j_iload (q := 33) hx (dc kX8_split_0 18 rfl) 0 rfl rfl ?_
          refine j_bipush (q := 35) (v := (10 : Int32)) hx (dc kX8_split_0 19 rfl) (by decide) rfl ?_
          refine j_icmp_eq (q := 38) (tgt := 45) hx (dc kX8_split_0 20 rfl) (by decide) Iff.rfl rfl ?_ ?_
          · exact j_sub [1, 2, 3, 4] rfl (hb45 x0 x1 x2 x3 h)
          · refine j_iload (q := 40) hx (dc kX8_split_0 21 rfl) 0 rfl rfl ?_
            refine j_bipush (q := 42) (v := (32 : Int32)) hx (dc kX8_split_0 22 rfl) (by decide) rfl ?_
            refine j_icmp_neS (q := 45) (tgt := 51) hx (dc kX8_split_0 23 rfl) (by decide) rfl ?_ ?_
            · refine j_aload_n (q := 52) hx (dc kX8_split_0 26 rfl) rfl 1 rfl rfl ?_
              refine j_aload_n (q := 53) hx (dc kX8_split_0 27 rfl) rfl 2 rfl rfl ?_
              refine j_iload_n (q := 54) hx (dc kX8_split_0 28 rfl) rfl 3 rfl rfl ?_
              refine j_iload (q := 56) hx (dc kX8_split_0 29 rfl) 0 rfl rfl ?_
              refine w_cVIW (q := 59) (As := [vR x.2.2.2 x1, .int x2, .int v6]) (st := []) hx (dc kX8_split_0 30 rfl) cf8 (by decide) rfl (cI _ my_X8_cutOne lm_X8_58 (by decide)) vs_X8_cutOne rfl (fun u hu => sX8_cutOne _ _ _ _ _ _ _ _ hu) (fun e => ite_ne (by unfold mX8_cutOne at e; exact e)) (Nat.zero_le _) rfl (fun v8 h9 => ?_)
              refine j_istore_n (q := 60) (i := 2) (l2 := [(0, vR x.2.2.2 x0), (1, vR x.2.2.2 x1), (3, .int x3)]) hx (dc kX8_split_0 31 rfl) rfl (hn 2 (by decide)) [1, 2, 4] rfl ⟨⟨show (0 : Nat) ≠ 2 by decide, Or.inl (show (0 : Nat) + 1 ≠ 2 by decide)⟩, ⟨⟨show (1 : Nat) ≠ 2 by decide, Or.inr (vR_cat _ _)⟩, ⟨⟨show (3 : Nat) ≠ 2 by decide, Or.inl (show (3 : Nat) + 1 ≠ 2 by decide)⟩, trivial⟩⟩⟩ rfl ?_
              exact j_sub [1, 2, 0, 3] rfl (hb60 x0 x1 v8 x3 h9)
            · exact j_sub [1, 2, 3, 4] rfl (hb45 x0 x1 x2 x3 h)
    exact j_loop (S := (Int32 × Int32 × Hp)) (lvf := fun s => [(0, vR x.2.2.2 x0), (1, vR x.2.2.2 x1), (2, .int s.1), (3, .int s.2.1)]) (hpf := fun s => s.2.2) (f := (fun s : (Int32 × Int32 × Hp) => mX8_split_l9f x0 x1 s.1 s.2.1 s.2.2)) (fun s => hB s.1 s.2.1 s.2.2) (x2, x3, h)
  unfold mX8_split
  refine J.ckd fun hck => ?_
  refine j_aload_n (q := 1) hx (dc kX8_split_0 0 rfl) rfl 0 rfl rfl ?_
  refine j_iconst (q := 2) (v := (0 : Int32)) hx (dc kX8_split_0 1 rfl) (by decide) rfl ?_
  refine w_sI (q := 5) hx (dc kX8_split_0 2 rfl) ff_X8_4 rfl lk_X8_48 (Or.inl rfl) rfl (fun h1 => ?_)
  refine j_iconst (q := 6) (v := (0 : Int32)) hx (dc kX8_split_0 3 rfl) (by decide) rfl ?_
  refine j_istore_n (q := 7) (i := 2) (l2 := [(0, vR x.2.2.2 x0), (1, vR x.2.2.2 x1)]) hx (dc kX8_split_0 4 rfl) rfl (hn 2 (by decide)) [0, 1] rfl ⟨⟨show (0 : Nat) ≠ 2 by decide, Or.inl (show (0 : Nat) + 1 ≠ 2 by decide)⟩, ⟨⟨show (1 : Nat) ≠ 2 by decide, Or.inr (vR_cat _ _)⟩, trivial⟩⟩ rfl ?_
  refine j_iconst (q := 8) (v := (0 : Int32)) hx (dc kX8_split_0 5 rfl) (by decide) rfl ?_
  refine j_istore_n (q := 9) (i := 3) (l2 := [(2, .int (0 : Int32)), (0, vR x.2.2.2 x0), (1, vR x.2.2.2 x1)]) hx (dc kX8_split_0 6 rfl) rfl (hn 3 (by decide)) [0, 1, 2] rfl ⟨⟨show (2 : Nat) ≠ 3 by decide, Or.inr rfl⟩, ⟨⟨show (0 : Nat) ≠ 3 by decide, Or.inl (show (0 : Nat) + 1 ≠ 3 by decide)⟩, ⟨⟨show (1 : Nat) ≠ 3 by decide, Or.inl (show (1 : Nat) + 1 ≠ 3 by decide)⟩, trivial⟩⟩⟩ rfl ?_
  exact j_sub [2, 3, 1, 0] rfl (hb9 x0 x1 (0 : Int32) (0 : Int32) h1)

set_option maxHeartbeats 4000000 in
set_option maxRecDepth 100000 in
theorem sX9_init {x0 : Nat} (hvx0 : x0 ≠ 0) (l : Launch) (w : Wd) (h : Hp) (u : Hp) (hK : mX9_init x0 h = some u) : M1 l w mi_X9_init 2 [vR w x0] h u (none) := by
  refine M1.of (own := RX9) (T := fun _ r => r = u) hK (by decide +kernel) rfl (by first | (simp only [lg_lenR, lg_lenI, lg_lenL, lg_len0]; decide) | decide) (fun x hx hnl hhf hl hw hret hnm hQ h0e => ⟨?_, rfl⟩)
  subst hw
  subst hl
  have hR : Rt x h u (none) (none) := ⟨h0e, hhf, hret, hQ⟩
  have hn : ∀ i, i < 2 → i < x.2.2.1.1.1 := fun i hi => by rw [hnl]; exact hi
  have e0 : lv_args 0 [vR x.2.2.2 x0] = [(0, vR x.2.2.2 x0)] := by simp only [lv_argsR, lv_argsI, lv_argsL, lv_args0]
  rw [e0]
  have hb42 : ∀ (x0 : Nat) (x1 : Int32) (h : Hp), J x 42 [(0, vR x.2.2.2 x0), (1, .int x1)] [] h (mX9_init_l42 x0 x1 h) (fun r => r = u) := by
    intro x0 x1 h
    have hB : ∀ (x1 : Int32) (h : Hp), J x 42 [(0, vR x.2.2.2 x0), (1, .int x1)] [] h (mX9_init_l42f x0 x1 h) (TLo (S := (Int32 × Hp)) x 42 (fun s => [(0, vR x.2.2.2 x0), (1, .int s.1)]) [] (fun s => s.2) (fun r => r = u)) := by
      intro x1 h
      unfold mX9_init_l42f
      refine j_iload_n (q := 43) hx (dc kX9_init_0 20 rfl) rfl 1 rfl rfl ?_
      refine j_sipush (q := 46) (v := (256 : Int32)) hx (dc kX9_init_0 21 rfl) (by decide) rfl ?_
      refine j_icmp_geS (q := 49) (tgt := 79) hx (dc kX9_init_0 22 rfl) (by decide) rfl ?_ ?_
      · refine j_exit ?_
        exact r_vW hx hR (dc kX9_init_0 41 rfl)
      · refine j_aload_n (q := 50) hx (dc kX9_init_0 23 rfl) rfl 0 rfl rfl ?_
        refine w_gR (q := 53) hx (dc kX9_init_0 24 rfl) ff_X9_0 lk_X9_9 rfl (fun v13 => ?_)
        refine j_iload_n (q := 54) hx (dc kX9_init_0 25 rfl) rfl 1 rfl rfl ?_
        refine j_aload_n (q := 55) hx (dc kX9_init_0 26 rfl) rfl 0 rfl rfl ?_
        refine w_gR (q := 58) hx (dc kX9_init_0 27 rfl) ff_X9_0 lk_X9_9 rfl (fun v14 => ?_)
        refine j_iload_n (q := 59) hx (dc kX9_init_0 28 rfl) rfl 1 rfl rfl ?_
        refine j_iconst (q := 60) (v := (1 : Int32)) hx (dc kX9_init_0 29 rfl) (by decide) rfl ?_
        refine j_ishr (q := 61) hx (dc kX9_init_0 30 rfl) rfl ?_
        refine w_cSIR (q := 64) (As := [vR x.2.2.2 v14, .int (x1 >>> ((1 : Int32) &&& 31))]) (st := [.int x1, vR x.2.2.2 v13]) hx (dc kX9_init_0 31 rfl) (cI _ my_X11_at lm_X9_24 (by decide)) st_X11_at rfl (fun u hu => sX11_at _ _ _ _ _ _ hu) (sum_le (sum_I (sum_R sum_nil)) (by decide)) rfl (fun v15 => ?_)
        refine j_iconst (q := 65) (v := (3 : Int32)) hx (dc kX9_init_0 32 rfl) (by decide) rfl ?_
        refine j_imul (q := 66) hx (dc kX9_init_0 33 rfl) rfl ?_
        refine j_iload_n (q := 67) hx (dc kX9_init_0 34 rfl) rfl 1 rfl rfl ?_
        refine j_iconst (q := 68) (v := (1 : Int32)) hx (dc kX9_init_0 35 rfl) (by decide) rfl ?_
        refine j_iand (q := 69) hx (dc kX9_init_0 36 rfl) rfl ?_
        refine j_iadd (q := 70) hx (dc kX9_init_0 37 rfl) rfl ?_
        refine w_cSVW (q := 73) (As := [vR x.2.2.2 v13, .int x1, .int ((v15 * (3 : Int32)) + (x1 &&& (1 : Int32)))]) (st := []) hx (dc kX9_init_0 38 rfl) (cI _ my_X11_put lm_X9_28 (by decide)) st_X11_put rfl (fun u hu => sX11_put _ _ _ _ _ _ _ hu) (Nat.zero_le _) rfl (fun h18 => ?_)
        refine j_iinc (q := 76) (l2 := [(0, vR x.2.2.2 x0)]) hx (dc kX9_init_0 39 rfl) 1 rfl (v := (1 : Int32)) (by decide) (hn 1 (by decide)) [0] rfl ⟨⟨show (0 : Nat) ≠ 1 by decide, Or.inr (vR_cat _ _)⟩, trivial⟩ rfl ?_
        refine j_goto (q := 42) hx (dc kX9_init_0 40 rfl) (by decide) ?_
        exact j_back [1, 0] ((x1 + (1 : Int32)), h18) rfl rfl
    exact j_loop (S := (Int32 × Hp)) (lvf := fun s => [(0, vR x.2.2.2 x0), (1, .int s.1)]) (hpf := fun s => s.2) (f := (fun s : (Int32 × Hp) => mX9_init_l42f x0 s.1 s.2)) (fun s => hB s.1 s.2) (x1, h)
  unfold mX9_init
  refine j_aload_n (q := 1) hx (dc kX9_init_0 0 rfl) rfl 0 rfl rfl ?_
  refine j_obj (q := 4) hx (dc kX9_init_0 1 rfl) lo_X9_3 hvx0 (by decide) (Nat.zero_le _) rfl ?_
  refine j_aload_n (q := 5) hx (dc kX9_init_0 2 rfl) rfl 0 rfl rfl ?_
  refine j_sipush (q := 8) (v := (256 : Int32)) hx (dc kX9_init_0 3 rfl) (by decide) rfl ?_
  refine j_newarray50 (q := 10) hx (dc kX9_init_0 4 rfl) ac_I (by decide) (by decide) (by decide) rfl (fun v2 hvv2 h1 => ?_)
  refine w_sR (q := 13) hx (dc kX9_init_0 5 rfl) ff_X9_0 lk_X9_9 (Or.inr ⟨hnm, rfl, rfl, lt_X9_9⟩) rfl (fun h3 => ?_)
  refine j_aload_n (q := 14) hx (dc kX9_init_0 6 rfl) rfl 0 rfl rfl ?_
  refine j_sipush (q := 17) (v := (256 : Int32)) hx (dc kX9_init_0 7 rfl) (by decide) rfl ?_
  refine j_newarray50 (q := 19) hx (dc kX9_init_0 8 rfl) ac_I (by decide) (by decide) (by decide) rfl (fun v5 hvv5 h4 => ?_)
  refine w_sR (q := 22) hx (dc kX9_init_0 9 rfl) ff_X9_1 lk_X9_15 (Or.inr ⟨hnm, rfl, rfl, lt_X9_15⟩) rfl (fun h6 => ?_)
  refine j_aload_n (q := 23) hx (dc kX9_init_0 10 rfl) rfl 0 rfl rfl ?_
  refine j_sipush (q := 26) (v := (6561 : Int32)) hx (dc kX9_init_0 11 rfl) (by decide) rfl ?_
  refine j_newarray50 (q := 28) hx (dc kX9_init_0 12 rfl) ac_I (by decide) (by decide) (by decide) rfl (fun v8 hvv8 h7 => ?_)
  refine w_sR (q := 31) hx (dc kX9_init_0 13 rfl) ff_X9_2 lk_X9_18 (Or.inr ⟨hnm, rfl, rfl, lt_X9_18⟩) rfl (fun h9 => ?_)
  refine j_aload_n (q := 32) hx (dc kX9_init_0 14 rfl) rfl 0 rfl rfl ?_
  refine j_sipush (q := 35) (v := (6561 : Int32)) hx (dc kX9_init_0 15 rfl) (by decide) rfl ?_
  refine j_newarray50 (q := 37) hx (dc kX9_init_0 16 rfl) ac_I (by decide) (by decide) (by decide) rfl (fun v11 hvv11 h10 => ?_)
  refine w_sR (q := 40) hx (dc kX9_init_0 17 rfl) ff_X9_3 lk_X9_21 (Or.inr ⟨hnm, rfl, rfl, lt_X9_21⟩) rfl (fun h12 => ?_)
  refine j_iconst (q := 41) (v := (1 : Int32)) hx (dc kX9_init_0 18 rfl) (by decide) rfl ?_
  refine j_istore_n (q := 42) (i := 1) (l2 := [(0, vR x.2.2.2 x0)]) hx (dc kX9_init_0 19 rfl) rfl (hn 1 (by decide)) [0] rfl ⟨⟨show (0 : Nat) ≠ 1 by decide, Or.inr (vR_cat _ _)⟩, trivial⟩ rfl ?_
  exact j_sub [1, 0] rfl (hb42 x0 (1 : Int32) h12)

set_option maxHeartbeats 4000000 in
set_option maxRecDepth 100000 in
theorem sX9_node (l : Launch) (w : Wd) (x0 : Nat) (x1 : Int32) (x2 : Int32) (h : Hp) (u : Int32) (hK : mX9_node x0 x1 x2 h = some u) : M1 l w mi_X9_node 2 [vR w x0, .int x1, .int x2] h h (some (.int u)) := by
  refine M1.of (own := RX9) (T := fun _ r => r = u) hK (by decide +kernel) rfl (by first | (simp only [lg_lenR, lg_lenI, lg_lenL, lg_len0]; decide) | decide) (fun x hx hnl hhf hl hw hret hnm hQ h0e => ⟨?_, rfl⟩)
  subst hw
  subst hl
  have hR : Rt x h h (some (.int u)) ((some .int)) := ⟨h0e, hhf, hret, hQ⟩
  have hn : ∀ i, i < 3 → i < x.2.2.1.1.1 := fun i hi => by rw [hnl]; exact hi
  have e0 : lv_args 0 [vR x.2.2.2 x0, .int x1, .int x2] = [(0, vR x.2.2.2 x0), (1, .int x1), (2, .int x2)] := by simp only [lv_argsR, lv_argsI, lv_argsL, lv_args0]
  rw [e0]
  unfold mX9_node
  refine J.ckd fun hck => ?_
  refine j_aload_n (q := 1) hx (dc kX9_node_0 0 rfl) rfl 0 rfl rfl ?_
  refine w_gR (q := 4) hx (dc kX9_node_0 1 rfl) ff_X9_0 lk_X9_9 rfl (fun v1 => ?_)
  refine j_iload_n (q := 5) hx (dc kX9_node_0 2 rfl) rfl 1 rfl rfl ?_
  refine w_cSIR (q := 8) (As := [vR x.2.2.2 v1, .int x1]) (st := []) hx (dc kX9_node_0 3 rfl) (cI _ my_X11_at lm_X9_24 (by decide)) st_X11_at rfl (fun u hu => sX11_at _ _ _ _ _ _ hu) (Nat.zero_le _) rfl (fun v2 => ?_)
  refine j_aload_n (q := 9) hx (dc kX9_node_0 4 rfl) rfl 0 rfl rfl ?_
  refine w_gR (q := 12) hx (dc kX9_node_0 5 rfl) ff_X9_0 lk_X9_9 rfl (fun v4 => ?_)
  refine j_iload_n (q := 13) hx (dc kX9_node_0 6 rfl) rfl 2 rfl rfl ?_
  refine w_cSIR (q := 16) (As := [vR x.2.2.2 v4, .int x2]) (st := [.int v2]) hx (dc kX9_node_0 7 rfl) (cI _ my_X11_at lm_X9_24 (by decide)) st_X11_at rfl (fun u hu => sX11_at _ _ _ _ _ _ hu) (sum_le (sum_I sum_nil) (by decide)) rfl (fun v5 => ?_)
  refine j_iadd (q := 17) hx (dc kX9_node_0 8 rfl) rfl ?_
  exact r_iR hx hR (dc kX9_node_0 9 rfl)

set_option maxHeartbeats 4000000 in
set_option maxRecDepth 100000 in
theorem sX9_markOf (l : Launch) (w : Wd) (x0 : Nat) (x1 : Int32) (x2 : Int32) (h : Hp) (u : Int32) (hK : mX9_markOf x0 x1 x2 h = some u) : M1 l w mi_X9_markOf 3 [vR w x0, .int x1, .int x2] h h (some (.int u)) := by
  refine M1.of (own := RX9) (T := fun _ r => r = u) hK (by decide +kernel) rfl (by first | (simp only [lg_lenR, lg_lenI, lg_lenL, lg_len0]; decide) | decide) (fun x hx hnl hhf hl hw hret hnm hQ h0e => ⟨?_, rfl⟩)
  subst hw
  subst hl
  have hR : Rt x h h (some (.int u)) ((some .int)) := ⟨h0e, hhf, hret, hQ⟩
  have hn : ∀ i, i < 3 → i < x.2.2.1.1.1 := fun i hi => by rw [hnl]; exact hi
  have e0 : lv_args 0 [vR x.2.2.2 x0, .int x1, .int x2] = [(0, vR x.2.2.2 x0), (1, .int x1), (2, .int x2)] := by simp only [lv_argsR, lv_argsI, lv_argsL, lv_args0]
  rw [e0]
  unfold mX9_markOf
  refine J.ckd fun hck => ?_
  refine j_aload_n (q := 1) hx (dc kX9_markOf_0 0 rfl) rfl 0 rfl rfl ?_
  refine w_gR (q := 4) hx (dc kX9_markOf_0 1 rfl) ff_X9_2 lk_X9_18 rfl (fun v1 => ?_)
  refine j_aload_n (q := 5) hx (dc kX9_markOf_0 2 rfl) rfl 0 rfl rfl ?_
  refine j_iload_n (q := 6) hx (dc kX9_markOf_0 3 rfl) rfl 1 rfl rfl ?_
  refine j_iload_n (q := 7) hx (dc kX9_markOf_0 4 rfl) rfl 2 rfl rfl ?_
  refine w_cVIR (q := 10) (As := [.int x1, .int x2]) (st := [vR x.2.2.2 v1]) hx (dc kX9_markOf_0 5 rfl) cf9 (by decide) rfl (cI _ my_X9_node lm_X9_32 (by decide)) vs_X9_node rfl (fun u hu => sX9_node _ _ _ _ _ _ _ hu) (fun e => ite_ne (by unfold mX9_node at e; exact e)) (sum_le (sum_R sum_nil) (by decide)) rfl (fun v2 => ?_)
  refine w_cSIR (q := 13) (As := [vR x.2.2.2 v1, .int v2]) (st := []) hx (dc kX9_markOf_0 6 rfl) (cI _ my_X11_at lm_X9_24 (by decide)) st_X11_at rfl (fun u hu => sX11_at _ _ _ _ _ _ hu) (Nat.zero_le _) rfl (fun v4 => ?_)
  exact r_iR hx hR (dc kX9_markOf_0 7 rfl)

set_option maxHeartbeats 4000000 in
set_option maxRecDepth 100000 in
theorem sX9_value (l : Launch) (w : Wd) (x0 : Nat) (h : Hp) (u : Int32) (hK : mX9_value x0 h = some u) : M1 l w mi_X9_value 2 [vR w x0] h h (some (.int u)) := by
  refine M1.of (own := RX9) (T := fun _ r => r = u) hK (by decide +kernel) rfl (by first | (simp only [lg_lenR, lg_lenI, lg_lenL, lg_len0]; decide) | decide) (fun x hx hnl hhf hl hw hret hnm hQ h0e => ⟨?_, rfl⟩)
  subst hw
  subst hl
  have hR : Rt x h h (some (.int u)) ((some .int)) := ⟨h0e, hhf, hret, hQ⟩
  have hn : ∀ i, i < 1 → i < x.2.2.1.1.1 := fun i hi => by rw [hnl]; exact hi
  have e0 : lv_args 0 [vR x.2.2.2 x0] = [(0, vR x.2.2.2 x0)] := by simp only [lv_argsR, lv_argsI, lv_argsL, lv_args0]
  rw [e0]
  unfold mX9_value
  refine J.ckd fun hck => ?_
  refine j_aload_n (q := 1) hx (dc kX9_value_0 0 rfl) rfl 0 rfl rfl ?_
  refine w_gR (q := 4) hx (dc kX9_value_0 1 rfl) ff_X9_3 lk_X9_21 rfl (fun v1 => ?_)
  refine j_iconst (q := 5) (v := (0 : Int32)) hx (dc kX9_value_0 2 rfl) (by decide) rfl ?_
  refine w_cSIR (q := 8) (As := [vR x.2.2.2 v1, .int (0 : Int32)]) (st := []) hx (dc kX9_value_0 3 rfl) (cI _ my_X11_at lm_X9_24 (by decide)) st_X11_at rfl (fun u hu => sX11_at _ _ _ _ _ _ hu) (Nat.zero_le _) rfl (fun v2 => ?_)
  exact r_iR hx hR (dc kX9_value_0 4 rfl)

set_option maxHeartbeats 4000000 in
set_option maxRecDepth 100000 in
theorem sX9_setLeaf (l : Launch) (w : Wd) (x0 : Nat) (x1 : Int32) (x2 : Int32) (h : Hp) (u : Hp) (hK : mX9_setLeaf x0 x1 x2 h = some u) : M1 l w mi_X9_setLeaf 2 [vR w x0, .int x1, .int x2] h u (none) := by
  refine M1.of (own := RX9) (T := fun _ r => r = u) hK (by decide +kernel) rfl (by first | (simp only [lg_lenR, lg_lenI, lg_lenL, lg_len0]; decide) | decide) (fun x hx hnl hhf hl hw hret hnm hQ h0e => ⟨?_, rfl⟩)
  subst hw
  subst hl
  have hR : Rt x h u (none) (none) := ⟨h0e, hhf, hret, hQ⟩
  have hn : ∀ i, i < 3 → i < x.2.2.1.1.1 := fun i hi => by rw [hnl]; exact hi
  have e0 : lv_args 0 [vR x.2.2.2 x0, .int x1, .int x2] = [(0, vR x.2.2.2 x0), (1, .int x1), (2, .int x2)] := by simp only [lv_argsR, lv_argsI, lv_argsL, lv_args0]
  rw [e0]
  unfold mX9_setLeaf
  refine J.ckd fun hck => ?_
  refine j_aload_n (q := 1) hx (dc kX9_setLeaf_0 0 rfl) rfl 0 rfl rfl ?_
  refine w_gR (q := 4) hx (dc kX9_setLeaf_0 1 rfl) ff_X9_1 lk_X9_15 rfl (fun v1 => ?_)
  refine j_iload_n (q := 5) hx (dc kX9_setLeaf_0 2 rfl) rfl 1 rfl rfl ?_
  refine j_iload_n (q := 6) hx (dc kX9_setLeaf_0 3 rfl) rfl 2 rfl rfl ?_
  refine w_cSVW (q := 9) (As := [vR x.2.2.2 v1, .int x1, .int x2]) (st := []) hx (dc kX9_setLeaf_0 4 rfl) (cI _ my_X11_put lm_X9_28 (by decide)) st_X11_put rfl (fun u hu => sX11_put _ _ _ _ _ _ _ hu) (Nat.zero_le _) rfl (fun h3 => ?_)
  exact r_vW hx hR (dc kX9_setLeaf_0 5 rfl)

set_option maxHeartbeats 4000000 in
set_option maxRecDepth 100000 in
theorem sX9_markFrom (l : Launch) (w : Wd) (x0 : Nat) (x1 : Int32) (x2 : Int32) (h : Hp) (u : Int32) (hK : mX9_markFrom x0 x1 x2 h = some u) : M1 l w mi_X9_markFrom 2 [vR w x0, .int x1, .int x2] h h (some (.int u)) := by
  refine M1.of (own := RX9) (T := fun _ r => r = u) hK (by decide +kernel) rfl (by first | (simp only [lg_lenR, lg_lenI, lg_lenL, lg_len0]; decide) | decide) (fun x hx hnl hhf hl hw hret hnm hQ h0e => ⟨?_, rfl⟩)
  subst hw
  subst hl
  have hR : Rt x h h (some (.int u)) ((some .int)) := ⟨h0e, hhf, hret, hQ⟩
  have hn : ∀ i, i < 4 → i < x.2.2.1.1.1 := fun i hi => by rw [hnl]; exact hi
  have e0 : lv_args 0 [vR x.2.2.2 x0, .int x1, .int x2] = [(0, vR x.2.2.2 x0), (1, .int x1), (2, .int x2)] := by simp only [lv_argsR, lv_argsI, lv_argsL, lv_args0]
  rw [e0]
  unfold mX9_markFrom
  refine J.ckd fun hck => ?_
  refine j_aload_n (q := 1) hx (dc kX9_markFrom_0 0 rfl) rfl 0 rfl rfl ?_
  refine w_gR (q := 4) hx (dc kX9_markFrom_0 1 rfl) ff_X9_0 lk_X9_9 rfl (fun v1 => ?_)
  refine j_iload_n (q := 5) hx (dc kX9_markFrom_0 2 rfl) rfl 2 rfl rfl ?_
  refine j_iload_n (q := 6) hx (dc kX9_markFrom_0 3 rfl) rfl 2 rfl rfl ?_
  refine j_ineg (q := 7) hx (dc kX9_markFrom_0 4 rfl) rfl ?_
  refine j_iand (q := 8) hx (dc kX9_markFrom_0 5 rfl) rfl ?_
  refine w_cSIR (q := 11) (As := [vR x.2.2.2 v1, .int (x2 &&& (-x2))]) (st := []) hx (dc kX9_markFrom_0 6 rfl) (cI _ my_X11_at lm_X9_24 (by decide)) st_X11_at rfl (fun u hu => sX11_at _ _ _ _ _ _ hu) (Nat.zero_le _) rfl (fun v2 => ?_)
  refine j_istore_n (q := 12) (i := 3) (l2 := [(0, vR x.2.2.2 x0), (1, .int x1)]) hx (dc kX9_markFrom_0 7 rfl) rfl (hn 3 (by decide)) [0, 1] rfl ⟨⟨show (0 : Nat) ≠ 3 by decide, Or.inl (show (0 : Nat) + 1 ≠ 3 by decide)⟩, ⟨⟨show (1 : Nat) ≠ 3 by decide, Or.inl (show (1 : Nat) + 1 ≠ 3 by decide)⟩, trivial⟩⟩ rfl ?_
  refine j_aload_n (q := 13) hx (dc kX9_markFrom_0 8 rfl) rfl 1 rfl rfl ?_
  refine w_gR (q := 16) hx (dc kX9_markFrom_0 9 rfl) ff_X9_2 lk_X9_18 rfl (fun v4 => ?_)
  refine j_iload_n (q := 17) hx (dc kX9_markFrom_0 10 rfl) rfl 2 rfl rfl ?_
  refine j_iload_n (q := 18) hx (dc kX9_markFrom_0 11 rfl) rfl 0 rfl rfl ?_
  refine j_iadd (q := 19) hx (dc kX9_markFrom_0 12 rfl) rfl ?_
  refine w_cSIR (q := 22) (As := [vR x.2.2.2 v4, .int (x1 + v2)]) (st := []) hx (dc kX9_markFrom_0 13 rfl) (cI _ my_X11_at lm_X9_24 (by decide)) st_X11_at rfl (fun u hu => sX11_at _ _ _ _ _ _ hu) (Nat.zero_le _) rfl (fun v5 => ?_)
  refine j_aload_n (q := 23) hx (dc kX9_markFrom_0 14 rfl) rfl 1 rfl rfl ?_
  refine w_gR (q := 26) hx (dc kX9_markFrom_0 15 rfl) ff_X9_2 lk_X9_18 rfl (fun v7 => ?_)
  refine j_iload_n (q := 27) hx (dc kX9_markFrom_0 16 rfl) rfl 2 rfl rfl ?_
  refine j_iconst (q := 28) (v := (2 : Int32)) hx (dc kX9_markFrom_0 17 rfl) (by decide) rfl ?_
  refine j_iload_n (q := 29) hx (dc kX9_markFrom_0 18 rfl) rfl 0 rfl rfl ?_
  refine j_imul (q := 30) hx (dc kX9_markFrom_0 19 rfl) rfl ?_
  refine j_iadd (q := 31) hx (dc kX9_markFrom_0 20 rfl) rfl ?_
  refine w_cSIR (q := 34) (As := [vR x.2.2.2 v7, .int (x1 + ((2 : Int32) * v2))]) (st := [.int v5]) hx (dc kX9_markFrom_0 21 rfl) (cI _ my_X11_at lm_X9_24 (by decide)) st_X11_at rfl (fun u hu => sX11_at _ _ _ _ _ _ hu) (sum_le (sum_I sum_nil) (by decide)) rfl (fun v8 => ?_)
  refine j_ior (q := 35) hx (dc kX9_markFrom_0 22 rfl) rfl ?_
  exact r_iR hx hR (dc kX9_markFrom_0 23 rfl)

set_option maxHeartbeats 4000000 in
set_option maxRecDepth 100000 in
theorem sX9_grow (l : Launch) (w : Wd) (x0 : Nat) (x1 : Int32) (x2 : Int32) (h : Hp) (u : Hp) (hK : mX9_grow x0 x1 x2 h = some u) : M1 l w mi_X9_grow 3 [vR w x0, .int x1, .int x2] h u (none) := by
  refine M1.of (own := RX9) (T := fun _ r => r = u) hK (by decide +kernel) rfl (by first | (simp only [lg_lenR, lg_lenI, lg_lenL, lg_len0]; decide) | decide) (fun x hx hnl hhf hl hw hret hnm hQ h0e => ⟨?_, rfl⟩)
  subst hw
  subst hl
  have hR : Rt x h u (none) (none) := ⟨h0e, hhf, hret, hQ⟩
  have hn : ∀ i, i < 7 → i < x.2.2.1.1.1 := fun i hi => by rw [hnl]; exact hi
  have e0 : lv_args 0 [vR x.2.2.2 x0, .int x1, .int x2] = [(0, vR x.2.2.2 x0), (1, .int x1), (2, .int x2)] := by simp only [lv_argsR, lv_argsI, lv_argsL, lv_args0]
  rw [e0]
  have hb10 : ∀ (x0 : Nat) (x2 : Int32) (x3 : Int32) (h : Hp), J x 10 [(0, vR x.2.2.2 x0), (2, .int x2), (3, .int x3)] [] h (mX9_grow_l10 x0 x2 x3 h) (fun r => r = u) := by
    intro x0 x2 x3 h
    have hB : ∀ (x3 : Int32) (h : Hp), J x 10 [(0, vR x.2.2.2 x0), (2, .int x2), (3, .int x3)] [] h (mX9_grow_l10f x0 x2 x3 h) (TLo (S := (Int32 × Hp)) x 10 (fun s => [(0, vR x.2.2.2 x0), (2, .int x2), (3, .int s.1)]) [] (fun s => s.2) (fun r => r = u)) := by
      intro x3 h
      have hb103 : ∀ (x0 : Nat) (x2 : Int32) (x3 : Int32) (h : Hp), J x 103 [(0, vR x.2.2.2 x0), (2, .int x2), (3, .int x3)] [] h (mX9_grow_b103 x0 x2 x3 h) (TLo (S := (Int32 × Hp)) x 10 (fun s => [(0, vR x.2.2.2 x0), (2, .int x2), (3, .int s.1)]) [] (fun s => s.2) (fun r => r = u)) := by
        intro x0 x2 x3 h
        unfold mX9_grow_b103
        refine j_iinc (q := 106) (l2 := [(0, vR x.2.2.2 x0), (2, .int x2)]) hx (dc kX9_grow_0 56 rfl) 2 rfl (v := (-1 : Int32)) (by decide) (hn 3 (by decide)) [0, 1] rfl ⟨⟨show (0 : Nat) ≠ 3 by decide, Or.inl (show (0 : Nat) + 1 ≠ 3 by decide)⟩, ⟨⟨show (2 : Nat) ≠ 3 by decide, Or.inr rfl⟩, trivial⟩⟩ rfl ?_
        refine j_goto (q := 10) hx (dc kX9_grow_0 57 rfl) (by decide) ?_
        exact j_back [1, 2, 0] ((x3 + (-1 : Int32)), h) rfl rfl
      have hb17 : ∀ (x0 : Nat) (x2 : Int32) (x3 : Int32) (x4 : Int32) (h : Hp), J x 17 [(0, vR x.2.2.2 x0), (2, .int x2), (3, .int x3), (4, .int x4)] [] h (mX9_grow_l17 x0 x2 x3 x4 h) (TLo (S := (Int32 × Hp)) x 10 (fun s => [(0, vR x.2.2.2 x0), (2, .int x2), (3, .int s.1)]) [] (fun s => s.2) (fun r => r = u)) := by
        intro x0 x2 x3 x4 h
        have hB : ∀ (x4 : Int32) (h : Hp), J x 17 [(0, vR x.2.2.2 x0), (2, .int x2), (3, .int x3), (4, .int x4)] [] h (mX9_grow_l17f x0 x2 x3 x4 h) (TLo (S := (Int32 × Hp)) x 17 (fun s => [(0, vR x.2.2.2 x0), (2, .int x2), (3, .int x3), (4, .int s.1)]) [] (fun s => s.2) (TLo (S := (Int32 × Hp)) x 10 (fun s => [(0, vR x.2.2.2 x0), (2, .int x2), (3, .int s.1)]) [] (fun s => s.2) (fun r => r = u))) := by
          intro x4 h
          have hb97 : ∀ (x0 : Nat) (x2 : Int32) (x3 : Int32) (x4 : Int32) (h : Hp), J x 97 [(0, vR x.2.2.2 x0), (2, .int x2), (3, .int x3), (4, .int x4)] [] h (mX9_grow_b97 x0 x2 x3 x4 h) (TLo (S := (Int32 × Hp)) x 17 (fun s => [(0, vR x.2.2.2 x0), (2, .int x2), (3, .int x3), (4, .int s.1)]) [] (fun s => s.2) (TLo (S := (Int32 × Hp)) x 10 (fun s => [(0, vR x.2.2.2 x0), (2, .int x2), (3, .int s.1)]) [] (fun s => s.2) (fun r => r = u))) := by
            intro x0 x2 x3 x4 h
            unfold mX9_grow_b97
            refine j_iinc (q := 100) (l2 := [(0, vR x.2.2.2 x0), (2, .int x2), (3, .int x3)]) hx (dc kX9_grow_0 54 rfl) 3 rfl (v := (-1 : Int32)) (by decide) (hn 4 (by decide)) [0, 1, 2] rfl ⟨⟨show (0 : Nat) ≠ 4 by decide, Or.inl (show (0 : Nat) + 1 ≠ 4 by decide)⟩, ⟨⟨show (2 : Nat) ≠ 4 by decide, Or.inl (show (2 : Nat) + 1 ≠ 4 by decide)⟩, ⟨⟨show (3 : Nat) ≠ 4 by decide, Or.inr rfl⟩, trivial⟩⟩⟩ rfl ?_
            refine j_goto (q := 17) hx (dc kX9_grow_0 55 rfl) (by decide) ?_
            exact j_back [1, 2, 3, 0] ((x4 + (-1 : Int32)), h) rfl rfl
          have hb94 : ∀ (x0 : Nat) (x2 : Int32) (x3 : Int32) (x4 : Int32) (t0 : Nat) (t1 : Int32) (t2 : Int32) (h : Hp), J x 94 [(0, vR x.2.2.2 x0), (2, .int x2), (3, .int x3), (4, .int x4)] [.int t2, .int t1, vR x.2.2.2 t0] h (mX9_grow_b94 x0 x2 x3 x4 t0 t1 t2 h) (TLo (S := (Int32 × Hp)) x 17 (fun s => [(0, vR x.2.2.2 x0), (2, .int x2), (3, .int x3), (4, .int s.1)]) [] (fun s => s.2) (TLo (S := (Int32 × Hp)) x 10 (fun s => [(0, vR x.2.2.2 x0), (2, .int x2), (3, .int s.1)]) [] (fun s => s.2) (fun r => r = u))) := by
            intro x0 x2 x3 x4 t0 t1 t2 h
            unfold mX9_grow_b94
            refine w_cSVW (q := 97) (As := [vR x.2.2.2 t0, .int t1, .int t2]) (st := []) hx (dc kX9_grow_0 53 rfl) (cI _ my_X11_put lm_X9_28 (by decide)) st_X11_put rfl (fun u hu => sX11_put _ _ _ _ _ _ _ hu) (Nat.zero_le _) rfl (fun h11 => ?_)
            exact hb97 x0 x2 x3 x4 h11
          unfold mX9_grow_l17f
          refine j_iload (q := 19) hx (dc kX9_grow_0 10 rfl) 3 rfl rfl ?_
          refine j_if_lt (q := 22) (tgt := 103) hx (dc kX9_grow_0 11 rfl) (by decide) Iff.rfl rfl ?_ ?_
          · refine j_exit ?_
            exact j_sub [0, 1, 2] rfl (hb103 x0 x2 x3 h)
          · refine j_iload_n (q := 23) hx (dc kX9_grow_0 12 rfl) rfl 2 rfl rfl ?_
            refine j_aload_n (q := 24) hx (dc kX9_grow_0 13 rfl) rfl 0 rfl rfl ?_
            refine w_gI (q := 27) hx (dc kX9_grow_0 14 rfl) ff_X9_4 lk_X9_36 rfl (fun v3 => ?_)
            refine j_iconst (q := 28) (v := (-1 : Int32)) hx (dc kX9_grow_0 15 rfl) (by decide) rfl ?_
            refine j_ixor (q := 29) hx (dc kX9_grow_0 16 rfl) rfl ?_
            refine j_iand (q := 30) hx (dc kX9_grow_0 17 rfl) rfl ?_
            refine j_if_neS (q := 33) (tgt := 103) hx (dc kX9_grow_0 18 rfl) (by decide) rfl ?_ ?_
            · refine j_exit ?_
              exact j_sub [0, 1, 2] rfl (hb103 x0 x2 x3 h)
            · refine j_iload (q := 35) hx (dc kX9_grow_0 19 rfl) 3 rfl rfl ?_
              refine j_iload_n (q := 36) hx (dc kX9_grow_0 20 rfl) rfl 2 rfl rfl ?_
              refine j_iconst (q := 37) (v := (-1 : Int32)) hx (dc kX9_grow_0 21 rfl) (by decide) rfl ?_
              refine j_ixor (q := 38) hx (dc kX9_grow_0 22 rfl) rfl ?_
              refine j_iand (q := 39) hx (dc kX9_grow_0 23 rfl) rfl ?_
              refine j_if_neS (q := 42) (tgt := 97) hx (dc kX9_grow_0 24 rfl) (by decide) rfl ?_ ?_
              · exact hb97 x0 x2 x3 x4 h
              · refine j_aload_n (q := 43) hx (dc kX9_grow_0 25 rfl) rfl 0 rfl rfl ?_
                refine j_iload_n (q := 44) hx (dc kX9_grow_0 26 rfl) rfl 2 rfl rfl ?_
                refine j_iload (q := 46) hx (dc kX9_grow_0 27 rfl) 3 rfl rfl ?_
                refine w_cVIR (q := 49) (As := [.int x3, .int x4]) (st := []) hx (dc kX9_grow_0 28 rfl) cf9 (by decide) rfl (cI _ my_X9_node lm_X9_32 (by decide)) vs_X9_node rfl (fun u hu => sX9_node _ _ _ _ _ _ _ hu) (fun e => ite_ne (by unfold mX9_node at e; exact e)) (Nat.zero_le _) rfl (fun v4 => ?_)
                refine j_istore (q := 51) (i := 5) (l2 := [(0, vR x.2.2.2 x0), (2, .int x2), (3, .int x3), (4, .int x4)]) hx (dc kX9_grow_0 29 rfl) (hn 5 (by decide)) [0, 1, 2, 3] rfl ⟨⟨show (0 : Nat) ≠ 5 by decide, Or.inl (show (0 : Nat) + 1 ≠ 5 by decide)⟩, ⟨⟨show (2 : Nat) ≠ 5 by decide, Or.inl (show (2 : Nat) + 1 ≠ 5 by decide)⟩, ⟨⟨show (3 : Nat) ≠ 5 by decide, Or.inl (show (3 : Nat) + 1 ≠ 5 by decide)⟩, ⟨⟨show (4 : Nat) ≠ 5 by decide, Or.inr rfl⟩, trivial⟩⟩⟩⟩ rfl ?_
                refine j_aload_n (q := 52) hx (dc kX9_grow_0 30 rfl) rfl 1 rfl rfl ?_
                refine w_gI (q := 55) hx (dc kX9_grow_0 31 rfl) ff_X9_4 lk_X9_36 rfl (fun v6 => ?_)
                refine j_iload_n (q := 56) hx (dc kX9_grow_0 32 rfl) rfl 3 rfl rfl ?_
                refine j_iconst (q := 57) (v := (-1 : Int32)) hx (dc kX9_grow_0 33 rfl) (by decide) rfl ?_
                refine j_ixor (q := 58) hx (dc kX9_grow_0 34 rfl) rfl ?_
                refine j_iand (q := 59) hx (dc kX9_grow_0 35 rfl) rfl ?_
                refine j_istore (q := 61) (i := 6) (l2 := [(5, .int v4), (0, vR x.2.2.2 x0), (2, .int x2), (3, .int x3), (4, .int x4)]) hx (dc kX9_grow_0 36 rfl) (hn 6 (by decide)) [0, 1, 2, 3, 4] rfl ⟨⟨show (5 : Nat) ≠ 6 by decide, Or.inr rfl⟩, ⟨⟨show (0 : Nat) ≠ 6 by decide, Or.inl (show (0 : Nat) + 1 ≠ 6 by decide)⟩, ⟨⟨show (2 : Nat) ≠ 6 by decide, Or.inl (show (2 : Nat) + 1 ≠ 6 by decide)⟩, ⟨⟨show (3 : Nat) ≠ 6 by decide, Or.inl (show (3 : Nat) + 1 ≠ 6 by decide)⟩, ⟨⟨show (4 : Nat) ≠ 6 by decide, Or.inl (show (4 : Nat) + 1 ≠ 6 by decide)⟩, trivial⟩⟩⟩⟩⟩ rfl ?_
                refine j_aload_n (q := 62) hx (dc kX9_grow_0 37 rfl) rfl 2 rfl rfl ?_
                refine w_gR (q := 65) hx (dc kX9_grow_0 38 rfl) ff_X9_2 lk_X9_18 rfl (fun v7 => ?_)
                refine j_iload (q := 67) hx (dc kX9_grow_0 39 rfl) 1 rfl rfl ?_
                refine j_iload (q := 69) hx (dc kX9_grow_0 40 rfl) 0 rfl rfl ?_
                refine j_if_neS (q := 72) (tgt := 86) hx (dc kX9_grow_0 41 rfl) (by decide) rfl ?_ ?_
                · refine j_aload_n (q := 87) hx (dc kX9_grow_0 49 rfl) rfl 2 rfl rfl ?_
                  refine j_iload (q := 89) hx (dc kX9_grow_0 50 rfl) 1 rfl rfl ?_
                  refine j_iload (q := 91) hx (dc kX9_grow_0 51 rfl) 0 rfl rfl ?_
                  refine w_cVIR (q := 94) (As := [.int v4, .int (v6 &&& (x3 ^^^ (-1 : Int32)))]) (st := [.int v4, vR x.2.2.2 v7]) hx (dc kX9_grow_0 52 rfl) cf9 (by decide) rfl (cI _ my_X9_markFrom lm_X9_40 (by decide)) vs_X9_markFrom rfl (fun u hu => sX9_markFrom _ _ _ _ _ _ _ hu) (fun e => ite_ne (by unfold mX9_markFrom at e; exact e)) (sum_le (sum_I (sum_R sum_nil)) (by decide)) rfl (fun v8 => ?_)
                  exact j_sub [2, 3, 4, 5] rfl (hb94 x0 x2 x3 x4 v7 v4 v8 h)
                · refine j_aload_n (q := 73) hx (dc kX9_grow_0 42 rfl) rfl 2 rfl rfl ?_
                  refine w_gR (q := 76) hx (dc kX9_grow_0 43 rfl) ff_X9_1 lk_X9_15 rfl (fun v12 => ?_)
                  refine j_iload (q := 78) hx (dc kX9_grow_0 44 rfl) 5 rfl rfl ?_
                  refine j_iload_n (q := 79) hx (dc kX9_grow_0 45 rfl) rfl 3 rfl rfl ?_
                  refine j_ior (q := 80) hx (dc kX9_grow_0 46 rfl) rfl ?_
                  refine w_cSIR (q := 83) (As := [vR x.2.2.2 v12, .int (x4 ||| x2)]) (st := [.int v4, vR x.2.2.2 v7]) hx (dc kX9_grow_0 47 rfl) (cI _ my_X11_at lm_X9_24 (by decide)) st_X11_at rfl (fun u hu => sX11_at _ _ _ _ _ _ hu) (sum_le (sum_I (sum_R sum_nil)) (by decide)) rfl (fun v13 => ?_)
                  refine j_goto (q := 94) hx (dc kX9_grow_0 48 rfl) (by decide) ?_
                  exact j_sub [2, 3, 4, 5] rfl (hb94 x0 x2 x3 x4 v7 v4 v13 h)
        exact j_loop (S := (Int32 × Hp)) (lvf := fun s => [(0, vR x.2.2.2 x0), (2, .int x2), (3, .int x3), (4, .int s.1)]) (hpf := fun s => s.2) (f := (fun s : (Int32 × Hp) => mX9_grow_l17f x0 x2 x3 s.1 s.2)) (fun s => hB s.1 s.2) (x4, h)
      unfold mX9_grow_l10f
      refine j_iload_n (q := 11) hx (dc kX9_grow_0 6 rfl) rfl 2 rfl rfl ?_
      refine j_if_lt (q := 14) (tgt := 109) hx (dc kX9_grow_0 7 rfl) (by decide) Iff.rfl rfl ?_ ?_
      · refine j_exit ?_
        exact r_vW hx hR (dc kX9_grow_0 58 rfl)
      · refine j_iload_n (q := 15) hx (dc kX9_grow_0 8 rfl) rfl 2 rfl rfl ?_
        refine j_istore (q := 17) (i := 4) (l2 := [(0, vR x.2.2.2 x0), (2, .int x2), (3, .int x3)]) hx (dc kX9_grow_0 9 rfl) (hn 4 (by decide)) [0, 1, 2] rfl ⟨⟨show (0 : Nat) ≠ 4 by decide, Or.inl (show (0 : Nat) + 1 ≠ 4 by decide)⟩, ⟨⟨show (2 : Nat) ≠ 4 by decide, Or.inl (show (2 : Nat) + 1 ≠ 4 by decide)⟩, ⟨⟨show (3 : Nat) ≠ 4 by decide, Or.inr rfl⟩, trivial⟩⟩⟩ rfl ?_
        exact j_sub [1, 2, 3, 0] rfl (hb17 x0 x2 x3 x3 h)
    exact j_loop (S := (Int32 × Hp)) (lvf := fun s => [(0, vR x.2.2.2 x0), (2, .int x2), (3, .int s.1)]) (hpf := fun s => s.2) (f := (fun s : (Int32 × Hp) => mX9_grow_l10f x0 x2 s.1 s.2)) (fun s => hB s.1 s.2) (x3, h)
  unfold mX9_grow
  refine J.ckd fun hck => ?_
  refine j_aload_n (q := 1) hx (dc kX9_grow_0 0 rfl) rfl 0 rfl rfl ?_
  refine j_iload_n (q := 2) hx (dc kX9_grow_0 1 rfl) rfl 1 rfl rfl ?_
  refine w_sI (q := 5) hx (dc kX9_grow_0 2 rfl) ff_X9_4 rfl lk_X9_36 (Or.inl rfl) rfl (fun h1 => ?_)
  refine j_aload_n (q := 6) hx (dc kX9_grow_0 3 rfl) rfl 0 rfl rfl ?_
  refine w_gI (q := 9) hx (dc kX9_grow_0 4 rfl) ff_X9_4 lk_X9_36 rfl (fun v2 => ?_)
  refine j_istore_n (q := 10) (i := 3) (l2 := [(0, vR x.2.2.2 x0), (2, .int x2)]) hx (dc kX9_grow_0 5 rfl) rfl (hn 3 (by decide)) [0, 2] rfl ⟨⟨show (0 : Nat) ≠ 3 by decide, Or.inl (show (0 : Nat) + 1 ≠ 3 by decide)⟩, ⟨⟨show (2 : Nat) ≠ 3 by decide, Or.inr rfl⟩, trivial⟩⟩ rfl ?_
  exact j_sub [1, 2, 0] rfl (hb10 x0 x2 v2 h1)

set_option maxHeartbeats 4000000 in
set_option maxRecDepth 100000 in
theorem sX9_trialsBy (l : Launch) (w : Wd) (x0 : Nat) (x1 : Int32) (x2 : Int32) (h : Hp) (u : Int32) (hK : mX9_trialsBy x0 x1 x2 h = some u) : M1 l w mi_X9_trialsBy 2 [vR w x0, .int x1, .int x2] h h (some (.int u)) := by
  refine M1.of (own := RX9) (T := fun _ r => r = u) hK (by decide +kernel) rfl (by first | (simp only [lg_lenR, lg_lenI, lg_lenL, lg_len0]; decide) | decide) (fun x hx hnl hhf hl hw hret hnm hQ h0e => ⟨?_, rfl⟩)
  subst hw
  subst hl
  have hR : Rt x h h (some (.int u)) ((some .int)) := ⟨h0e, hhf, hret, hQ⟩
  have hn : ∀ i, i < 4 → i < x.2.2.1.1.1 := fun i hi => by rw [hnl]; exact hi
  have e0 : lv_args 0 [vR x.2.2.2 x0, .int x1, .int x2] = [(0, vR x.2.2.2 x0), (1, .int x1), (2, .int x2)] := by simp only [lv_argsR, lv_argsI, lv_argsL, lv_args0]
  rw [e0]
  unfold mX9_trialsBy
  refine J.ckd fun hck => ?_
  refine j_aload_n (q := 1) hx (dc kX9_trialsBy_0 0 rfl) rfl 0 rfl rfl ?_
  refine w_gR (q := 4) hx (dc kX9_trialsBy_0 1 rfl) ff_X9_0 lk_X9_9 rfl (fun v1 => ?_)
  refine j_iconst (q := 5) (v := (1 : Int32)) hx (dc kX9_trialsBy_0 2 rfl) (by decide) rfl ?_
  refine j_iload_n (q := 6) hx (dc kX9_trialsBy_0 3 rfl) rfl 1 rfl rfl ?_
  refine j_ishl (q := 7) hx (dc kX9_trialsBy_0 4 rfl) rfl ?_
  refine w_cSIR (q := 10) (As := [vR x.2.2.2 v1, .int ((1 : Int32) <<< (x1 &&& 31))]) (st := []) hx (dc kX9_trialsBy_0 5 rfl) (cI _ my_X11_at lm_X9_24 (by decide)) st_X11_at rfl (fun u hu => sX11_at _ _ _ _ _ _ hu) (Nat.zero_le _) rfl (fun v2 => ?_)
  refine j_istore_n (q := 11) (i := 3) (l2 := [(0, vR x.2.2.2 x0), (2, .int x2)]) hx (dc kX9_trialsBy_0 6 rfl) rfl (hn 3 (by decide)) [0, 2] rfl ⟨⟨show (0 : Nat) ≠ 3 by decide, Or.inl (show (0 : Nat) + 1 ≠ 3 by decide)⟩, ⟨⟨show (2 : Nat) ≠ 3 by decide, Or.inr rfl⟩, trivial⟩⟩ rfl ?_
  refine j_iconst (q := 12) (v := (1 : Int32)) hx (dc kX9_trialsBy_0 7 rfl) (by decide) rfl ?_
  refine j_aload_n (q := 13) hx (dc kX9_trialsBy_0 8 rfl) rfl 1 rfl rfl ?_
  refine w_gR (q := 16) hx (dc kX9_trialsBy_0 9 rfl) ff_X9_3 lk_X9_21 rfl (fun v4 => ?_)
  refine j_iload_n (q := 17) hx (dc kX9_trialsBy_0 10 rfl) rfl 2 rfl rfl ?_
  refine j_iload_n (q := 18) hx (dc kX9_trialsBy_0 11 rfl) rfl 0 rfl rfl ?_
  refine j_iadd (q := 19) hx (dc kX9_trialsBy_0 12 rfl) rfl ?_
  refine w_cSIR (q := 22) (As := [vR x.2.2.2 v4, .int (x2 + v2)]) (st := [.int (1 : Int32)]) hx (dc kX9_trialsBy_0 13 rfl) (cI _ my_X11_at lm_X9_24 (by decide)) st_X11_at rfl (fun u hu => sX11_at _ _ _ _ _ _ hu) (sum_le (sum_I sum_nil) (by decide)) rfl (fun v5 => ?_)
  refine j_aload_n (q := 23) hx (dc kX9_trialsBy_0 14 rfl) rfl 1 rfl rfl ?_
  refine w_gR (q := 26) hx (dc kX9_trialsBy_0 15 rfl) ff_X9_3 lk_X9_21 rfl (fun v7 => ?_)
  refine j_iload_n (q := 27) hx (dc kX9_trialsBy_0 16 rfl) rfl 2 rfl rfl ?_
  refine j_iconst (q := 28) (v := (2 : Int32)) hx (dc kX9_trialsBy_0 17 rfl) (by decide) rfl ?_
  refine j_iload_n (q := 29) hx (dc kX9_trialsBy_0 18 rfl) rfl 0 rfl rfl ?_
  refine j_imul (q := 30) hx (dc kX9_trialsBy_0 19 rfl) rfl ?_
  refine j_iadd (q := 31) hx (dc kX9_trialsBy_0 20 rfl) rfl ?_
  refine w_cSIR (q := 34) (As := [vR x.2.2.2 v7, .int (x2 + ((2 : Int32) * v2))]) (st := [.int v5, .int (1 : Int32)]) hx (dc kX9_trialsBy_0 21 rfl) (cI _ my_X11_at lm_X9_24 (by decide)) st_X11_at rfl (fun u hu => sX11_at _ _ _ _ _ _ hu) (sum_le (sum_I (sum_I sum_nil)) (by decide)) rfl (fun v8 => ?_)
  refine w_mmax (q := 37) hx (dc kX9_trialsBy_0 22 rfl) lm_X9_58 ms_mmax ms_init mc_mmax (by decide) (sum_le (sum_I sum_nil) (by decide)) rfl ?_
  refine j_iadd (q := 38) hx (dc kX9_trialsBy_0 23 rfl) rfl ?_
  exact r_iR hx hR (dc kX9_trialsBy_0 24 rfl)

set_option maxHeartbeats 4000000 in
set_option maxRecDepth 100000 in
theorem sX9_fewestTrials (l : Launch) (w : Wd) (x0 : Nat) (x1 : Int32) (x2 : Int32) (h : Hp) (u : Int32) (hK : mX9_fewestTrials x0 x1 x2 h = some u) : M1 l w mi_X9_fewestTrials 3 [vR w x0, .int x1, .int x2] h h (some (.int u)) := by
  refine M1.of (own := RX9) (T := fun _ r => r = u) hK (by decide +kernel) rfl (by first | (simp only [lg_lenR, lg_lenI, lg_lenL, lg_len0]; decide) | decide) (fun x hx hnl hhf hl hw hret hnm hQ h0e => ⟨?_, rfl⟩)
  subst hw
  subst hl
  have hR : Rt x h h (some (.int u)) ((some .int)) := ⟨h0e, hhf, hret, hQ⟩
  have hn : ∀ i, i < 5 → i < x.2.2.1.1.1 := fun i hi => by rw [hnl]; exact hi
  have e0 : lv_args 0 [vR x.2.2.2 x0, .int x1, .int x2] = [(0, vR x.2.2.2 x0), (1, .int x1), (2, .int x2)] := by simp only [lv_argsR, lv_argsI, lv_argsL, lv_args0]
  rw [e0]
  have hb6 : ∀ (x0 : Nat) (x1 : Int32) (x2 : Int32) (x3 : Int32) (x4 : Int32), J x 6 [(0, vR x.2.2.2 x0), (1, .int x1), (2, .int x2), (3, .int x3), (4, .int x4)] [] h (mX9_fewestTrials_l6 x0 x1 x2 x3 x4 h) (fun r => r = u) := by
    intro x0 x1 x2 x3 x4
    have hB : ∀ (x3 : Int32) (x4 : Int32), J x 6 [(0, vR x.2.2.2 x0), (1, .int x1), (2, .int x2), (3, .int x3), (4, .int x4)] [] h (mX9_fewestTrials_l6f x0 x1 x2 h x3 x4) (TLo (S := (Int32 × Int32)) x 6 (fun s => [(0, vR x.2.2.2 x0), (1, .int x1), (2, .int x2), (3, .int s.1), (4, .int s.2)]) [] (fun s => h) (fun r => r = u)) := by
      intro x3 x4
      have hb41 : ∀ (x0 : Nat) (x1 : Int32) (x2 : Int32) (x3 : Int32) (x4 : Int32), J x 41 [(0, vR x.2.2.2 x0), (1, .int x1), (2, .int x2), (3, .int x3), (4, .int x4)] [] h (mX9_fewestTrials_b41 x0 x1 x2 x3 x4 h) (TLo (S := (Int32 × Int32)) x 6 (fun s => [(0, vR x.2.2.2 x0), (1, .int x1), (2, .int x2), (3, .int s.1), (4, .int s.2)]) [] (fun s => h) (fun r => r = u)) := by
        intro x0 x1 x2 x3 x4
        unfold mX9_fewestTrials_b41
        refine j_iinc (q := 44) (l2 := [(0, vR x.2.2.2 x0), (1, .int x1), (2, .int x2), (3, .int x3)]) hx (dc kX9_fewestTrials_0 23 rfl) 4 rfl (v := (1 : Int32)) (by decide) (hn 4 (by decide)) [0, 1, 2, 3] rfl ⟨⟨show (0 : Nat) ≠ 4 by decide, Or.inl (show (0 : Nat) + 1 ≠ 4 by decide)⟩, ⟨⟨show (1 : Nat) ≠ 4 by decide, Or.inl (show (1 : Nat) + 1 ≠ 4 by decide)⟩, ⟨⟨show (2 : Nat) ≠ 4 by decide, Or.inl (show (2 : Nat) + 1 ≠ 4 by decide)⟩, ⟨⟨show (3 : Nat) ≠ 4 by decide, Or.inr rfl⟩, trivial⟩⟩⟩⟩ rfl ?_
        refine j_goto (q := 6) hx (dc kX9_fewestTrials_0 24 rfl) (by decide) ?_
        exact j_back [1, 2, 3, 4, 0] (x3, (x4 + (1 : Int32))) rfl rfl
      unfold mX9_fewestTrials_l6f
      refine j_iload (q := 8) hx (dc kX9_fewestTrials_0 4 rfl) 4 rfl rfl ?_
      refine j_bipush (q := 10) (v := (8 : Int32)) hx (dc kX9_fewestTrials_0 5 rfl) (by decide) rfl ?_
      refine j_icmp_geS (q := 13) (tgt := 47) hx (dc kX9_fewestTrials_0 6 rfl) (by decide) rfl ?_ ?_
      · refine j_exit ?_
        refine j_iload_n (q := 48) hx (dc kX9_fewestTrials_0 25 rfl) rfl 3 rfl rfl ?_
        exact r_iR hx hR (dc kX9_fewestTrials_0 26 rfl)
      · refine j_aload_n (q := 14) hx (dc kX9_fewestTrials_0 7 rfl) rfl 0 rfl rfl ?_
        refine w_gI (q := 17) hx (dc kX9_fewestTrials_0 8 rfl) ff_X9_4 lk_X9_36 rfl (fun v1 => ?_)
        refine j_iload_n (q := 18) hx (dc kX9_fewestTrials_0 9 rfl) rfl 1 rfl rfl ?_
        refine j_iconst (q := 19) (v := (-1 : Int32)) hx (dc kX9_fewestTrials_0 10 rfl) (by decide) rfl ?_
        refine j_ixor (q := 20) hx (dc kX9_fewestTrials_0 11 rfl) rfl ?_
        refine j_iand (q := 21) hx (dc kX9_fewestTrials_0 12 rfl) rfl ?_
        refine j_iload (q := 23) hx (dc kX9_fewestTrials_0 13 rfl) 4 rfl rfl ?_
        refine w_cSIR (q := 26) (As := [.int (v1 &&& (x1 ^^^ (-1 : Int32))), .int x4]) (st := []) hx (dc kX9_fewestTrials_0 14 rfl) (cI _ my_X11_has lm_X9_46 (by decide)) st_X11_has rfl (fun u hu => sX11_has _ _ _ _ _ _ hu) (Nat.zero_le _) rfl (fun v2 => ?_)
        refine j_if_eq (q := 29) (tgt := 41) hx (dc kX9_fewestTrials_0 15 rfl) (by decide) Iff.rfl rfl ?_ ?_
        · exact hb41 x0 x1 x2 x3 x4
        · refine j_iload_n (q := 30) hx (dc kX9_fewestTrials_0 16 rfl) rfl 3 rfl rfl ?_
          refine j_aload_n (q := 31) hx (dc kX9_fewestTrials_0 17 rfl) rfl 0 rfl rfl ?_
          refine j_iload (q := 33) hx (dc kX9_fewestTrials_0 18 rfl) 4 rfl rfl ?_
          refine j_iload_n (q := 34) hx (dc kX9_fewestTrials_0 19 rfl) rfl 2 rfl rfl ?_
          refine w_cVIR (q := 37) (As := [.int x4, .int x2]) (st := [.int x3]) hx (dc kX9_fewestTrials_0 20 rfl) cf9 (by decide) rfl (cI _ my_X9_trialsBy lm_X9_50 (by decide)) vs_X9_trialsBy rfl (fun u hu => sX9_trialsBy _ _ _ _ _ _ _ hu) (fun e => ite_ne (by unfold mX9_trialsBy at e; exact e)) (sum_le (sum_I sum_nil) (by decide)) rfl (fun v4 => ?_)
          refine w_mmin (q := 40) hx (dc kX9_fewestTrials_0 21 rfl) lm_X9_53 ms_mmin ms_init mc_mmin (by decide) (Nat.zero_le _) rfl ?_
          refine j_istore_n (q := 41) (i := 3) (l2 := [(0, vR x.2.2.2 x0), (1, .int x1), (2, .int x2), (4, .int x4)]) hx (dc kX9_fewestTrials_0 22 rfl) rfl (hn 3 (by decide)) [0, 1, 2, 4] rfl ⟨⟨show (0 : Nat) ≠ 3 by decide, Or.inl (show (0 : Nat) + 1 ≠ 3 by decide)⟩, ⟨⟨show (1 : Nat) ≠ 3 by decide, Or.inl (show (1 : Nat) + 1 ≠ 3 by decide)⟩, ⟨⟨show (2 : Nat) ≠ 3 by decide, Or.inr rfl⟩, ⟨⟨show (4 : Nat) ≠ 3 by decide, Or.inl (show (4 : Nat) + 1 ≠ 3 by decide)⟩, trivial⟩⟩⟩⟩ rfl ?_
          exact j_sub [1, 2, 3, 0, 4] rfl (hb41 x0 x1 x2 (mmin x3 v4) x4)
    exact j_loop (S := (Int32 × Int32)) (lvf := fun s => [(0, vR x.2.2.2 x0), (1, .int x1), (2, .int x2), (3, .int s.1), (4, .int s.2)]) (hpf := fun s => h) (f := (fun s : (Int32 × Int32) => mX9_fewestTrials_l6f x0 x1 x2 h s.1 s.2)) (fun s => hB s.1 s.2) (x3, x4)
  unfold mX9_fewestTrials
  refine J.ckd fun hck => ?_
  refine j_bipush (q := 2) (v := (8 : Int32)) hx (dc kX9_fewestTrials_0 0 rfl) (by decide) rfl ?_
  refine j_istore_n (q := 3) (i := 3) (l2 := [(0, vR x.2.2.2 x0), (1, .int x1), (2, .int x2)]) hx (dc kX9_fewestTrials_0 1 rfl) rfl (hn 3 (by decide)) [0, 1, 2] rfl ⟨⟨show (0 : Nat) ≠ 3 by decide, Or.inl (show (0 : Nat) + 1 ≠ 3 by decide)⟩, ⟨⟨show (1 : Nat) ≠ 3 by decide, Or.inl (show (1 : Nat) + 1 ≠ 3 by decide)⟩, ⟨⟨show (2 : Nat) ≠ 3 by decide, Or.inr rfl⟩, trivial⟩⟩⟩ rfl ?_
  refine j_iconst (q := 4) (v := (0 : Int32)) hx (dc kX9_fewestTrials_0 2 rfl) (by decide) rfl ?_
  refine j_istore (q := 6) (i := 4) (l2 := [(3, .int (8 : Int32)), (0, vR x.2.2.2 x0), (1, .int x1), (2, .int x2)]) hx (dc kX9_fewestTrials_0 3 rfl) (hn 4 (by decide)) [0, 1, 2, 3] rfl ⟨⟨show (3 : Nat) ≠ 4 by decide, Or.inr rfl⟩, ⟨⟨show (0 : Nat) ≠ 4 by decide, Or.inl (show (0 : Nat) + 1 ≠ 4 by decide)⟩, ⟨⟨show (1 : Nat) ≠ 4 by decide, Or.inl (show (1 : Nat) + 1 ≠ 4 by decide)⟩, ⟨⟨show (2 : Nat) ≠ 4 by decide, Or.inl (show (2 : Nat) + 1 ≠ 4 by decide)⟩, trivial⟩⟩⟩⟩ rfl ?_
  exact j_sub [2, 3, 4, 1, 0] rfl (hb6 x0 x1 x2 (8 : Int32) (0 : Int32))

set_option maxHeartbeats 4000000 in
set_option maxRecDepth 100000 in
theorem sX9_countTrials (l : Launch) (w : Wd) (x0 : Nat) (h : Hp) (u : Hp) (hK : mX9_countTrials x0 h = some u) : M1 l w mi_X9_countTrials 4 [vR w x0] h u (none) := by
  refine M1.of (own := RX9) (T := fun _ r => r = u) hK (by decide +kernel) rfl (by first | (simp only [lg_lenR, lg_lenI, lg_lenL, lg_len0]; decide) | decide) (fun x hx hnl hhf hl hw hret hnm hQ h0e => ⟨?_, rfl⟩)
  subst hw
  subst hl
  have hR : Rt x h u (none) (none) := ⟨h0e, hhf, hret, hQ⟩
  have hn : ∀ i, i < 4 → i < x.2.2.1.1.1 := fun i hi => by rw [hnl]; exact hi
  have e0 : lv_args 0 [vR x.2.2.2 x0] = [(0, vR x.2.2.2 x0)] := by simp only [lv_argsR, lv_argsI, lv_argsL, lv_args0]
  rw [e0]
  have hb5 : ∀ (x0 : Nat) (x1 : Int32) (h : Hp), J x 5 [(0, vR x.2.2.2 x0), (1, .int x1)] [] h (mX9_countTrials_l5 x0 x1 h) (fun r => r = u) := by
    intro x0 x1 h
    have hB : ∀ (x1 : Int32) (h : Hp), J x 5 [(0, vR x.2.2.2 x0), (1, .int x1)] [] h (mX9_countTrials_l5f x0 x1 h) (TLo (S := (Int32 × Hp)) x 5 (fun s => [(0, vR x.2.2.2 x0), (1, .int s.1)]) [] (fun s => s.2) (fun r => r = u)) := by
      intro x1 h
      have hb77 : ∀ (x0 : Nat) (x1 : Int32) (h : Hp), J x 77 [(0, vR x.2.2.2 x0), (1, .int x1)] [] h (mX9_countTrials_b77 x0 x1 h) (TLo (S := (Int32 × Hp)) x 5 (fun s => [(0, vR x.2.2.2 x0), (1, .int s.1)]) [] (fun s => s.2) (fun r => r = u)) := by
        intro x0 x1 h
        unfold mX9_countTrials_b77
        refine j_iinc (q := 80) (l2 := [(0, vR x.2.2.2 x0)]) hx (dc kX9_countTrials_0 45 rfl) 1 rfl (v := (-1 : Int32)) (by decide) (hn 1 (by decide)) [0] rfl ⟨⟨show (0 : Nat) ≠ 1 by decide, Or.inr (vR_cat _ _)⟩, trivial⟩ rfl ?_
        refine j_goto (q := 5) hx (dc kX9_countTrials_0 46 rfl) (by decide) ?_
        exact j_back [1, 0] ((x1 + (-1 : Int32)), h) rfl rfl
      have hb11 : ∀ (x0 : Nat) (x1 : Int32) (x2 : Int32) (h : Hp), J x 11 [(0, vR x.2.2.2 x0), (1, .int x1), (2, .int x2)] [] h (mX9_countTrials_l11 x0 x1 x2 h) (TLo (S := (Int32 × Hp)) x 5 (fun s => [(0, vR x.2.2.2 x0), (1, .int s.1)]) [] (fun s => s.2) (fun r => r = u)) := by
        intro x0 x1 x2 h
        have hB : ∀ (x2 : Int32) (h : Hp), J x 11 [(0, vR x.2.2.2 x0), (1, .int x1), (2, .int x2)] [] h (mX9_countTrials_l11f x0 x1 x2 h) (TLo (S := (Int32 × Hp)) x 11 (fun s => [(0, vR x.2.2.2 x0), (1, .int x1), (2, .int s.1)]) [] (fun s => s.2) (TLo (S := (Int32 × Hp)) x 5 (fun s => [(0, vR x.2.2.2 x0), (1, .int s.1)]) [] (fun s => s.2) (fun r => r = u))) := by
          intro x2 h
          have hb71 : ∀ (x0 : Nat) (x1 : Int32) (x2 : Int32) (h : Hp), J x 71 [(0, vR x.2.2.2 x0), (1, .int x1), (2, .int x2)] [] h (mX9_countTrials_b71 x0 x1 x2 h) (TLo (S := (Int32 × Hp)) x 11 (fun s => [(0, vR x.2.2.2 x0), (1, .int x1), (2, .int s.1)]) [] (fun s => s.2) (TLo (S := (Int32 × Hp)) x 5 (fun s => [(0, vR x.2.2.2 x0), (1, .int s.1)]) [] (fun s => s.2) (fun r => r = u))) := by
            intro x0 x1 x2 h
            unfold mX9_countTrials_b71
            refine j_iinc (q := 74) (l2 := [(0, vR x.2.2.2 x0), (1, .int x1)]) hx (dc kX9_countTrials_0 43 rfl) 2 rfl (v := (-1 : Int32)) (by decide) (hn 2 (by decide)) [0, 1] rfl ⟨⟨show (0 : Nat) ≠ 2 by decide, Or.inl (show (0 : Nat) + 1 ≠ 2 by decide)⟩, ⟨⟨show (1 : Nat) ≠ 2 by decide, Or.inr rfl⟩, trivial⟩⟩ rfl ?_
            refine j_goto (q := 11) hx (dc kX9_countTrials_0 44 rfl) (by decide) ?_
            exact j_back [1, 2, 0] ((x2 + (-1 : Int32)), h) rfl rfl
          have hb68 : ∀ (x0 : Nat) (x1 : Int32) (x2 : Int32) (t0 : Nat) (t1 : Int32) (t2 : Int32) (h : Hp), J x 68 [(0, vR x.2.2.2 x0), (1, .int x1), (2, .int x2)] [.int t2, .int t1, vR x.2.2.2 t0] h (mX9_countTrials_b68 x0 x1 x2 t0 t1 t2 h) (TLo (S := (Int32 × Hp)) x 11 (fun s => [(0, vR x.2.2.2 x0), (1, .int x1), (2, .int s.1)]) [] (fun s => s.2) (TLo (S := (Int32 × Hp)) x 5 (fun s => [(0, vR x.2.2.2 x0), (1, .int s.1)]) [] (fun s => s.2) (fun r => r = u))) := by
            intro x0 x1 x2 t0 t1 t2 h
            unfold mX9_countTrials_b68
            refine w_cSVW (q := 71) (As := [vR x.2.2.2 t0, .int t1, .int t2]) (st := []) hx (dc kX9_countTrials_0 42 rfl) (cI _ my_X11_put lm_X9_28 (by decide)) st_X11_put rfl (fun u hu => sX11_put _ _ _ _ _ _ _ hu) (Nat.zero_le _) rfl (fun h10 => ?_)
            exact hb71 x0 x1 x2 h10
          unfold mX9_countTrials_l11f
          refine j_iload_n (q := 12) hx (dc kX9_countTrials_0 7 rfl) rfl 2 rfl rfl ?_
          refine j_if_lt (q := 15) (tgt := 77) hx (dc kX9_countTrials_0 8 rfl) (by decide) Iff.rfl rfl ?_ ?_
          · refine j_exit ?_
            exact j_sub [0, 1] rfl (hb77 x0 x1 h)
          · refine j_iload_n (q := 16) hx (dc kX9_countTrials_0 9 rfl) rfl 1 rfl rfl ?_
            refine j_aload_n (q := 17) hx (dc kX9_countTrials_0 10 rfl) rfl 0 rfl rfl ?_
            refine w_gI (q := 20) hx (dc kX9_countTrials_0 11 rfl) ff_X9_4 lk_X9_36 rfl (fun v2 => ?_)
            refine j_iconst (q := 21) (v := (-1 : Int32)) hx (dc kX9_countTrials_0 12 rfl) (by decide) rfl ?_
            refine j_ixor (q := 22) hx (dc kX9_countTrials_0 13 rfl) rfl ?_
            refine j_iand (q := 23) hx (dc kX9_countTrials_0 14 rfl) rfl ?_
            refine j_if_neS (q := 26) (tgt := 77) hx (dc kX9_countTrials_0 15 rfl) (by decide) rfl ?_ ?_
            · refine j_exit ?_
              exact j_sub [0, 1] rfl (hb77 x0 x1 h)
            · refine j_iload_n (q := 27) hx (dc kX9_countTrials_0 16 rfl) rfl 2 rfl rfl ?_
              refine j_iload_n (q := 28) hx (dc kX9_countTrials_0 17 rfl) rfl 1 rfl rfl ?_
              refine j_iconst (q := 29) (v := (-1 : Int32)) hx (dc kX9_countTrials_0 18 rfl) (by decide) rfl ?_
              refine j_ixor (q := 30) hx (dc kX9_countTrials_0 19 rfl) rfl ?_
              refine j_iand (q := 31) hx (dc kX9_countTrials_0 20 rfl) rfl ?_
              refine j_if_neS (q := 34) (tgt := 71) hx (dc kX9_countTrials_0 21 rfl) (by decide) rfl ?_ ?_
              · exact hb71 x0 x1 x2 h
              · refine j_aload_n (q := 35) hx (dc kX9_countTrials_0 22 rfl) rfl 0 rfl rfl ?_
                refine j_iload_n (q := 36) hx (dc kX9_countTrials_0 23 rfl) rfl 1 rfl rfl ?_
                refine j_iload_n (q := 37) hx (dc kX9_countTrials_0 24 rfl) rfl 2 rfl rfl ?_
                refine w_cVIR (q := 40) (As := [.int x1, .int x2]) (st := []) hx (dc kX9_countTrials_0 25 rfl) cf9 (by decide) rfl (cI _ my_X9_node lm_X9_32 (by decide)) vs_X9_node rfl (fun u hu => sX9_node _ _ _ _ _ _ _ hu) (fun e => ite_ne (by unfold mX9_node at e; exact e)) (Nat.zero_le _) rfl (fun v3 => ?_)
                refine j_istore_n (q := 41) (i := 3) (l2 := [(0, vR x.2.2.2 x0), (1, .int x1), (2, .int x2)]) hx (dc kX9_countTrials_0 26 rfl) rfl (hn 3 (by decide)) [0, 1, 2] rfl ⟨⟨show (0 : Nat) ≠ 3 by decide, Or.inl (show (0 : Nat) + 1 ≠ 3 by decide)⟩, ⟨⟨show (1 : Nat) ≠ 3 by decide, Or.inl (show (1 : Nat) + 1 ≠ 3 by decide)⟩, ⟨⟨show (2 : Nat) ≠ 3 by decide, Or.inr rfl⟩, trivial⟩⟩⟩ rfl ?_
                refine j_aload_n (q := 42) hx (dc kX9_countTrials_0 27 rfl) rfl 1 rfl rfl ?_
                refine w_gR (q := 45) hx (dc kX9_countTrials_0 28 rfl) ff_X9_3 lk_X9_21 rfl (fun v5 => ?_)
                refine j_iload_n (q := 46) hx (dc kX9_countTrials_0 29 rfl) rfl 0 rfl rfl ?_
                refine j_aload_n (q := 47) hx (dc kX9_countTrials_0 30 rfl) rfl 1 rfl rfl ?_
                refine w_gR (q := 50) hx (dc kX9_countTrials_0 31 rfl) ff_X9_2 lk_X9_18 rfl (fun v6 => ?_)
                refine j_iload_n (q := 51) hx (dc kX9_countTrials_0 32 rfl) rfl 0 rfl rfl ?_
                refine w_cSIR (q := 54) (As := [vR x.2.2.2 v6, .int v3]) (st := [.int v3, vR x.2.2.2 v5]) hx (dc kX9_countTrials_0 33 rfl) (cI _ my_X11_at lm_X9_24 (by decide)) st_X11_at rfl (fun u hu => sX11_at _ _ _ _ _ _ hu) (sum_le (sum_I (sum_R sum_nil)) (by decide)) rfl (fun v7 => ?_)
                refine j_iconst (q := 55) (v := (3 : Int32)) hx (dc kX9_countTrials_0 34 rfl) (by decide) rfl ?_
                refine j_icmp_neS (q := 58) (tgt := 67) hx (dc kX9_countTrials_0 35 rfl) (by decide) rfl ?_ ?_
                · refine j_iconst (q := 68) (v := (0 : Int32)) hx (dc kX9_countTrials_0 41 rfl) (by decide) rfl ?_
                  exact j_sub [1, 2, 3] rfl (hb68 x0 x1 x2 v5 v3 (0 : Int32) h)
                · refine j_aload_n (q := 59) hx (dc kX9_countTrials_0 36 rfl) rfl 1 rfl rfl ?_
                  refine j_iload_n (q := 60) hx (dc kX9_countTrials_0 37 rfl) rfl 2 rfl rfl ?_
                  refine j_iload_n (q := 61) hx (dc kX9_countTrials_0 38 rfl) rfl 0 rfl rfl ?_
                  refine w_cVIR (q := 64) (As := [.int x1, .int v3]) (st := [.int v3, vR x.2.2.2 v5]) hx (dc kX9_countTrials_0 39 rfl) cf9 (by decide) rfl (cI _ my_X9_fewestTrials lm_X9_43 (by decide)) vs_X9_fewestTrials rfl (fun u hu => sX9_fewestTrials _ _ _ _ _ _ _ hu) (fun e => ite_ne (by unfold mX9_fewestTrials at e; exact e)) (sum_le (sum_I (sum_R sum_nil)) (by decide)) rfl (fun v11 => ?_)
                  refine j_goto (q := 68) hx (dc kX9_countTrials_0 40 rfl) (by decide) ?_
                  exact j_sub [1, 2, 3] rfl (hb68 x0 x1 x2 v5 v3 v11 h)
        exact j_loop (S := (Int32 × Hp)) (lvf := fun s => [(0, vR x.2.2.2 x0), (1, .int x1), (2, .int s.1)]) (hpf := fun s => s.2) (f := (fun s : (Int32 × Hp) => mX9_countTrials_l11f x0 x1 s.1 s.2)) (fun s => hB s.1 s.2) (x2, h)
      unfold mX9_countTrials_l5f
      refine j_iload_n (q := 6) hx (dc kX9_countTrials_0 3 rfl) rfl 1 rfl rfl ?_
      refine j_if_lt (q := 9) (tgt := 83) hx (dc kX9_countTrials_0 4 rfl) (by decide) Iff.rfl rfl ?_ ?_
      · refine j_exit ?_
        exact r_vW hx hR (dc kX9_countTrials_0 47 rfl)
      · refine j_iload_n (q := 10) hx (dc kX9_countTrials_0 5 rfl) rfl 1 rfl rfl ?_
        refine j_istore_n (q := 11) (i := 2) (l2 := [(0, vR x.2.2.2 x0), (1, .int x1)]) hx (dc kX9_countTrials_0 6 rfl) rfl (hn 2 (by decide)) [0, 1] rfl ⟨⟨show (0 : Nat) ≠ 2 by decide, Or.inl (show (0 : Nat) + 1 ≠ 2 by decide)⟩, ⟨⟨show (1 : Nat) ≠ 2 by decide, Or.inr rfl⟩, trivial⟩⟩ rfl ?_
        exact j_sub [1, 2, 0] rfl (hb11 x0 x1 x1 h)
    exact j_loop (S := (Int32 × Hp)) (lvf := fun s => [(0, vR x.2.2.2 x0), (1, .int s.1)]) (hpf := fun s => s.2) (f := (fun s : (Int32 × Hp) => mX9_countTrials_l5f x0 s.1 s.2)) (fun s => hB s.1 s.2) (x1, h)
  unfold mX9_countTrials
  refine J.ckd fun hck => ?_
  refine j_aload_n (q := 1) hx (dc kX9_countTrials_0 0 rfl) rfl 0 rfl rfl ?_
  refine w_gI (q := 4) hx (dc kX9_countTrials_0 1 rfl) ff_X9_4 lk_X9_36 rfl (fun v1 => ?_)
  refine j_istore_n (q := 5) (i := 1) (l2 := [(0, vR x.2.2.2 x0)]) hx (dc kX9_countTrials_0 2 rfl) rfl (hn 1 (by decide)) [0] rfl ⟨⟨show (0 : Nat) ≠ 1 by decide, Or.inr (vR_cat _ _)⟩, trivial⟩ rfl ?_
  exact j_sub [1, 0] rfl (hb5 x0 v1 h)

set_option maxHeartbeats 4000000 in
set_option maxRecDepth 100000 in
theorem sX9_firstTrial (l : Launch) (w : Wd) (x0 : Nat) (h : Hp) (u : Int32) (hK : mX9_firstTrial x0 h = some u) : M1 l w mi_X9_firstTrial 3 [vR w x0] h h (some (.int u)) := by
  refine M1.of (own := RX9) (T := fun _ r => r = u) hK (by decide +kernel) rfl (by first | (simp only [lg_lenR, lg_lenI, lg_lenL, lg_len0]; decide) | decide) (fun x hx hnl hhf hl hw hret hnm hQ h0e => ⟨?_, rfl⟩)
  subst hw
  subst hl
  have hR : Rt x h h (some (.int u)) ((some .int)) := ⟨h0e, hhf, hret, hQ⟩
  have hn : ∀ i, i < 2 → i < x.2.2.1.1.1 := fun i hi => by rw [hnl]; exact hi
  have e0 : lv_args 0 [vR x.2.2.2 x0] = [(0, vR x.2.2.2 x0)] := by simp only [lv_argsR, lv_argsI, lv_argsL, lv_args0]
  rw [e0]
  have hb2 : ∀ (x0 : Nat) (x1 : Int32), J x 2 [(0, vR x.2.2.2 x0), (1, .int x1)] [] h (mX9_firstTrial_l2 x0 x1 h) (fun r => r = u) := by
    intro x0 x1
    have hB : ∀ (x1 : Int32), J x 2 [(0, vR x.2.2.2 x0), (1, .int x1)] [] h (mX9_firstTrial_l2f x0 h x1) (TLo (S := Int32) x 2 (fun s => [(0, vR x.2.2.2 x0), (1, .int s)]) [] (fun s => h) (fun r => r = u)) := by
      intro x1
      have hb34 : ∀ (x0 : Nat) (x1 : Int32), J x 34 [(0, vR x.2.2.2 x0), (1, .int x1)] [] h (mX9_firstTrial_b34 x0 x1 h) (TLo (S := Int32) x 2 (fun s => [(0, vR x.2.2.2 x0), (1, .int s)]) [] (fun s => h) (fun r => r = u)) := by
        intro x0 x1
        unfold mX9_firstTrial_b34
        refine j_iinc (q := 37) (l2 := [(0, vR x.2.2.2 x0)]) hx (dc kX9_firstTrial_0 19 rfl) 1 rfl (v := (1 : Int32)) (by decide) (hn 1 (by decide)) [0] rfl ⟨⟨show (0 : Nat) ≠ 1 by decide, Or.inr (vR_cat _ _)⟩, trivial⟩ rfl ?_
        refine j_goto (q := 2) hx (dc kX9_firstTrial_0 20 rfl) (by decide) ?_
        exact j_back [1, 0] (x1 + (1 : Int32)) rfl rfl
      unfold mX9_firstTrial_l2f
      refine j_iload_n (q := 3) hx (dc kX9_firstTrial_0 2 rfl) rfl 1 rfl rfl ?_
      refine j_bipush (q := 5) (v := (8 : Int32)) hx (dc kX9_firstTrial_0 3 rfl) (by decide) rfl ?_
      refine j_icmp_geS (q := 8) (tgt := 40) hx (dc kX9_firstTrial_0 4 rfl) (by decide) rfl ?_ ?_
      · refine j_exit ?_
        refine j_iconst (q := 41) (v := (-1 : Int32)) hx (dc kX9_firstTrial_0 21 rfl) (by decide) rfl ?_
        exact r_iR hx hR (dc kX9_firstTrial_0 22 rfl)
      · refine j_aload_n (q := 9) hx (dc kX9_firstTrial_0 5 rfl) rfl 0 rfl rfl ?_
        refine w_gI (q := 12) hx (dc kX9_firstTrial_0 6 rfl) ff_X9_4 lk_X9_36 rfl (fun v1 => ?_)
        refine j_iload_n (q := 13) hx (dc kX9_firstTrial_0 7 rfl) rfl 1 rfl rfl ?_
        refine w_cSIR (q := 16) (As := [.int v1, .int x1]) (st := []) hx (dc kX9_firstTrial_0 8 rfl) (cI _ my_X11_has lm_X9_46 (by decide)) st_X11_has rfl (fun u hu => sX11_has _ _ _ _ _ _ hu) (Nat.zero_le _) rfl (fun v2 => ?_)
        refine j_if_eq (q := 19) (tgt := 34) hx (dc kX9_firstTrial_0 9 rfl) (by decide) Iff.rfl rfl ?_ ?_
        · exact hb34 x0 x1
        · refine j_aload_n (q := 20) hx (dc kX9_firstTrial_0 10 rfl) rfl 0 rfl rfl ?_
          refine j_iload_n (q := 21) hx (dc kX9_firstTrial_0 11 rfl) rfl 1 rfl rfl ?_
          refine j_iconst (q := 22) (v := (0 : Int32)) hx (dc kX9_firstTrial_0 12 rfl) (by decide) rfl ?_
          refine w_cVIR (q := 25) (As := [.int x1, .int (0 : Int32)]) (st := []) hx (dc kX9_firstTrial_0 13 rfl) cf9 (by decide) rfl (cI _ my_X9_trialsBy lm_X9_50 (by decide)) vs_X9_trialsBy rfl (fun u hu => sX9_trialsBy _ _ _ _ _ _ _ hu) (fun e => ite_ne (by unfold mX9_trialsBy at e; exact e)) (Nat.zero_le _) rfl (fun v4 => ?_)
          refine j_aload_n (q := 26) hx (dc kX9_firstTrial_0 14 rfl) rfl 0 rfl rfl ?_
          refine w_cVIR (q := 29) (As := []) (st := [.int v4]) hx (dc kX9_firstTrial_0 15 rfl) cf9 (by decide) rfl (cI _ my_X9_value lm_X9_61 (by decide)) vs_X9_value rfl (fun u hu => sX9_value _ _ _ _ _ hu) (fun e => ite_ne (by unfold mX9_value at e; exact e)) (sum_le (sum_I sum_nil) (by decide)) rfl (fun v6 => ?_)
          refine j_icmp_neS (q := 32) (tgt := 34) hx (dc kX9_firstTrial_0 16 rfl) (by decide) rfl ?_ ?_
          · exact hb34 x0 x1
          · refine j_exit ?_
            refine j_iload_n (q := 33) hx (dc kX9_firstTrial_0 17 rfl) rfl 1 rfl rfl ?_
            exact r_iR hx hR (dc kX9_firstTrial_0 18 rfl)
    exact j_loop (S := Int32) (lvf := fun s => [(0, vR x.2.2.2 x0), (1, .int s)]) (hpf := fun s => h) (f := (fun s : Int32 => mX9_firstTrial_l2f x0 h s)) (fun s => hB s) x1
  unfold mX9_firstTrial
  refine J.ckd fun hck => ?_
  refine j_iconst (q := 1) (v := (0 : Int32)) hx (dc kX9_firstTrial_0 0 rfl) (by decide) rfl ?_
  refine j_istore_n (q := 2) (i := 1) (l2 := [(0, vR x.2.2.2 x0)]) hx (dc kX9_firstTrial_0 1 rfl) rfl (hn 1 (by decide)) [0] rfl ⟨⟨show (0 : Nat) ≠ 1 by decide, Or.inr (vR_cat _ _)⟩, trivial⟩ rfl ?_
  exact j_sub [1, 0] rfl (hb2 x0 (0 : Int32))

set_option maxHeartbeats 4000000 in
set_option maxRecDepth 100000 in
theorem sX9_leadsTo (l : Launch) (w : Wd) (x0 : Nat) (x1 : Int32) (x2 : Int32) (h : Hp) (u : Int32) (hK : mX9_leadsTo x0 x1 x2 h = some u) : M1 l w mi_X9_leadsTo 2 [vR w x0, .int x1, .int x2] h h (some (.int u)) := by
  refine M1.of (own := RX9) (T := fun _ r => r = u) hK (by decide +kernel) rfl (by first | (simp only [lg_lenR, lg_lenI, lg_lenL, lg_len0]; decide) | decide) (fun x hx hnl hhf hl hw hret hnm hQ h0e => ⟨?_, rfl⟩)
  subst hw
  subst hl
  have hR : Rt x h h (some (.int u)) ((some .boolean)) := ⟨h0e, hhf, hret, hQ⟩
  have hn : ∀ i, i < 3 → i < x.2.2.1.1.1 := fun i hi => by rw [hnl]; exact hi
  have e0 : lv_args 0 [vR x.2.2.2 x0, .int x1, .int x2] = [(0, vR x.2.2.2 x0), (1, .int x1), (2, .int x2)] := by simp only [lv_argsR, lv_argsI, lv_argsL, lv_args0]
  rw [e0]
  unfold mX9_leadsTo
  refine J.ckd fun hck => ?_
  refine j_aload_n (q := 1) hx (dc kX9_leadsTo_0 0 rfl) rfl 0 rfl rfl ?_
  refine w_gR (q := 4) hx (dc kX9_leadsTo_0 1 rfl) ff_X9_2 lk_X9_18 rfl (fun v1 => ?_)
  refine j_iload_n (q := 5) hx (dc kX9_leadsTo_0 2 rfl) rfl 1 rfl rfl ?_
  refine w_cSIR (q := 8) (As := [vR x.2.2.2 v1, .int x1]) (st := []) hx (dc kX9_leadsTo_0 3 rfl) (cI _ my_X11_at lm_X9_24 (by decide)) st_X11_at rfl (fun u hu => sX11_at _ _ _ _ _ _ hu) (Nat.zero_le _) rfl (fun v2 => ?_)
  refine j_if_eq (q := 11) (tgt := 27) hx (dc kX9_leadsTo_0 4 rfl) (by decide) Iff.rfl rfl ?_ ?_
  · refine j_iconst (q := 28) (v := (0 : Int32)) hx (dc kX9_leadsTo_0 13 rfl) (by decide) rfl ?_
    exact r_cR hx (Or.inl rfl) hR (dc kX9_leadsTo_0 14 rfl)
  · refine j_aload_n (q := 12) hx (dc kX9_leadsTo_0 5 rfl) rfl 0 rfl rfl ?_
    refine w_gR (q := 15) hx (dc kX9_leadsTo_0 6 rfl) ff_X9_3 lk_X9_21 rfl (fun v4 => ?_)
    refine j_iload_n (q := 16) hx (dc kX9_leadsTo_0 7 rfl) rfl 1 rfl rfl ?_
    refine w_cSIR (q := 19) (As := [vR x.2.2.2 v4, .int x1]) (st := []) hx (dc kX9_leadsTo_0 8 rfl) (cI _ my_X11_at lm_X9_24 (by decide)) st_X11_at rfl (fun u hu => sX11_at _ _ _ _ _ _ hu) (Nat.zero_le _) rfl (fun v5 => ?_)
    refine j_iload_n (q := 20) hx (dc kX9_leadsTo_0 9 rfl) rfl 2 rfl rfl ?_
    refine j_icmp_neS (q := 23) (tgt := 27) hx (dc kX9_leadsTo_0 10 rfl) (by decide) rfl ?_ ?_
    · refine j_iconst (q := 28) (v := (0 : Int32)) hx (dc kX9_leadsTo_0 13 rfl) (by decide) rfl ?_
      exact r_cR hx (Or.inl rfl) hR (dc kX9_leadsTo_0 14 rfl)
    · refine j_iconst (q := 24) (v := (1 : Int32)) hx (dc kX9_leadsTo_0 11 rfl) (by decide) rfl ?_
      refine j_goto (q := 28) hx (dc kX9_leadsTo_0 12 rfl) (by decide) ?_
      exact r_cR hx (Or.inr rfl) hR (dc kX9_leadsTo_0 14 rfl)

set_option maxHeartbeats 4000000 in
set_option maxRecDepth 100000 in
theorem sX9_bestTurn (l : Launch) (w : Wd) (x0 : Nat) (x1 : Int32) (x2 : Int32) (x3 : Int32) (h : Hp) (u : Int32) (hK : mX9_bestTurn x0 x1 x2 x3 h = some u) : M1 l w mi_X9_bestTurn 3 [vR w x0, .int x1, .int x2, .int x3] h h (some (.int u)) := by
  refine M1.of (own := RX9) (T := fun _ r => r = u) hK (by decide +kernel) rfl (by first | (simp only [lg_lenR, lg_lenI, lg_lenL, lg_len0]; decide) | decide) (fun x hx hnl hhf hl hw hret hnm hQ h0e => ⟨?_, rfl⟩)
  subst hw
  subst hl
  have hR : Rt x h h (some (.int u)) ((some .int)) := ⟨h0e, hhf, hret, hQ⟩
  have hn : ∀ i, i < 6 → i < x.2.2.1.1.1 := fun i hi => by rw [hnl]; exact hi
  have e0 : lv_args 0 [vR x.2.2.2 x0, .int x1, .int x2, .int x3] = [(0, vR x.2.2.2 x0), (1, .int x1), (2, .int x2), (3, .int x3)] := by simp only [lv_argsR, lv_argsI, lv_argsL, lv_args0]
  rw [e0]
  have hb3 : ∀ (x0 : Nat) (x1 : Int32) (x2 : Int32) (x3 : Int32) (x4 : Int32), J x 3 [(0, vR x.2.2.2 x0), (1, .int x1), (2, .int x2), (3, .int x3), (4, .int x4)] [] h (mX9_bestTurn_l3 x0 x1 x2 x3 x4 h) (fun r => r = u) := by
    intro x0 x1 x2 x3 x4
    have hB : ∀ (x4 : Int32), J x 3 [(0, vR x.2.2.2 x0), (1, .int x1), (2, .int x2), (3, .int x3), (4, .int x4)] [] h (mX9_bestTurn_l3f x0 x1 x2 x3 h x4) (TLo (S := Int32) x 3 (fun s => [(0, vR x.2.2.2 x0), (1, .int x1), (2, .int x2), (3, .int x3), (4, .int s)]) [] (fun s => h) (fun r => r = u)) := by
      intro x4
      have hb77 : ∀ (x0 : Nat) (x1 : Int32) (x2 : Int32) (x3 : Int32) (x4 : Int32), J x 77 [(0, vR x.2.2.2 x0), (1, .int x1), (2, .int x2), (3, .int x3), (4, .int x4)] [] h (mX9_bestTurn_b77 x0 x1 x2 x3 x4 h) (TLo (S := Int32) x 3 (fun s => [(0, vR x.2.2.2 x0), (1, .int x1), (2, .int x2), (3, .int x3), (4, .int s)]) [] (fun s => h) (fun r => r = u)) := by
        intro x0 x1 x2 x3 x4
        unfold mX9_bestTurn_b77
        refine j_iinc (q := 80) (l2 := [(0, vR x.2.2.2 x0), (1, .int x1), (2, .int x2), (3, .int x3)]) hx (dc kX9_bestTurn_0 47 rfl) 4 rfl (v := (1 : Int32)) (by decide) (hn 4 (by decide)) [0, 1, 2, 3] rfl ⟨⟨show (0 : Nat) ≠ 4 by decide, Or.inl (show (0 : Nat) + 1 ≠ 4 by decide)⟩, ⟨⟨show (1 : Nat) ≠ 4 by decide, Or.inl (show (1 : Nat) + 1 ≠ 4 by decide)⟩, ⟨⟨show (2 : Nat) ≠ 4 by decide, Or.inl (show (2 : Nat) + 1 ≠ 4 by decide)⟩, ⟨⟨show (3 : Nat) ≠ 4 by decide, Or.inr rfl⟩, trivial⟩⟩⟩⟩ rfl ?_
        refine j_goto (q := 3) hx (dc kX9_bestTurn_0 48 rfl) (by decide) ?_
        exact j_back [1, 2, 3, 4, 0] (x4 + (1 : Int32)) rfl rfl
      unfold mX9_bestTurn_l3f
      refine j_iload (q := 5) hx (dc kX9_bestTurn_0 2 rfl) 4 rfl rfl ?_
      refine j_bipush (q := 7) (v := (8 : Int32)) hx (dc kX9_bestTurn_0 3 rfl) (by decide) rfl ?_
      refine j_icmp_geS (q := 10) (tgt := 83) hx (dc kX9_bestTurn_0 4 rfl) (by decide) rfl ?_ ?_
      · refine j_exit ?_
        refine j_iconst (q := 84) (v := (-1 : Int32)) hx (dc kX9_bestTurn_0 49 rfl) (by decide) rfl ?_
        exact r_iR hx hR (dc kX9_bestTurn_0 50 rfl)
      · refine j_aload_n (q := 11) hx (dc kX9_bestTurn_0 5 rfl) rfl 0 rfl rfl ?_
        refine w_gI (q := 14) hx (dc kX9_bestTurn_0 6 rfl) ff_X9_4 lk_X9_36 rfl (fun v1 => ?_)
        refine j_iload_n (q := 15) hx (dc kX9_bestTurn_0 7 rfl) rfl 1 rfl rfl ?_
        refine j_iconst (q := 16) (v := (-1 : Int32)) hx (dc kX9_bestTurn_0 8 rfl) (by decide) rfl ?_
        refine j_ixor (q := 17) hx (dc kX9_bestTurn_0 9 rfl) rfl ?_
        refine j_iand (q := 18) hx (dc kX9_bestTurn_0 10 rfl) rfl ?_
        refine j_iload (q := 20) hx (dc kX9_bestTurn_0 11 rfl) 4 rfl rfl ?_
        refine w_cSIR (q := 23) (As := [.int (v1 &&& (x1 ^^^ (-1 : Int32))), .int x4]) (st := []) hx (dc kX9_bestTurn_0 12 rfl) (cI _ my_X11_has lm_X9_46 (by decide)) st_X11_has rfl (fun u hu => sX11_has _ _ _ _ _ _ hu) (Nat.zero_le _) rfl (fun v2 => ?_)
        refine j_if_eq (q := 26) (tgt := 77) hx (dc kX9_bestTurn_0 13 rfl) (by decide) Iff.rfl rfl ?_ ?_
        · exact hb77 x0 x1 x2 x3 x4
        · refine j_aload_n (q := 27) hx (dc kX9_bestTurn_0 14 rfl) rfl 0 rfl rfl ?_
          refine w_gR (q := 30) hx (dc kX9_bestTurn_0 15 rfl) ff_X9_0 lk_X9_9 rfl (fun v4 => ?_)
          refine j_iconst (q := 31) (v := (1 : Int32)) hx (dc kX9_bestTurn_0 16 rfl) (by decide) rfl ?_
          refine j_iload (q := 33) hx (dc kX9_bestTurn_0 17 rfl) 4 rfl rfl ?_
          refine j_ishl (q := 34) hx (dc kX9_bestTurn_0 18 rfl) rfl ?_
          refine w_cSIR (q := 37) (As := [vR x.2.2.2 v4, .int ((1 : Int32) <<< (x4 &&& 31))]) (st := []) hx (dc kX9_bestTurn_0 19 rfl) (cI _ my_X11_at lm_X9_24 (by decide)) st_X11_at rfl (fun u hu => sX11_at _ _ _ _ _ _ hu) (Nat.zero_le _) rfl (fun v5 => ?_)
          refine j_istore (q := 39) (i := 5) (l2 := [(0, vR x.2.2.2 x0), (1, .int x1), (2, .int x2), (3, .int x3), (4, .int x4)]) hx (dc kX9_bestTurn_0 20 rfl) (hn 5 (by decide)) [0, 1, 2, 3, 4] rfl ⟨⟨show (0 : Nat) ≠ 5 by decide, Or.inl (show (0 : Nat) + 1 ≠ 5 by decide)⟩, ⟨⟨show (1 : Nat) ≠ 5 by decide, Or.inl (show (1 : Nat) + 1 ≠ 5 by decide)⟩, ⟨⟨show (2 : Nat) ≠ 5 by decide, Or.inl (show (2 : Nat) + 1 ≠ 5 by decide)⟩, ⟨⟨show (3 : Nat) ≠ 5 by decide, Or.inl (show (3 : Nat) + 1 ≠ 5 by decide)⟩, ⟨⟨show (4 : Nat) ≠ 5 by decide, Or.inr rfl⟩, trivial⟩⟩⟩⟩⟩ rfl ?_
          refine j_aload_n (q := 40) hx (dc kX9_bestTurn_0 21 rfl) rfl 1 rfl rfl ?_
          refine j_iload_n (q := 41) hx (dc kX9_bestTurn_0 22 rfl) rfl 3 rfl rfl ?_
          refine j_iload (q := 43) hx (dc kX9_bestTurn_0 23 rfl) 0 rfl rfl ?_
          refine j_iadd (q := 44) hx (dc kX9_bestTurn_0 24 rfl) rfl ?_
          refine j_iload_n (q := 45) hx (dc kX9_bestTurn_0 25 rfl) rfl 4 rfl rfl ?_
          refine w_cVIR (q := 48) (As := [.int (x2 + v5), .int x3]) (st := []) hx (dc kX9_bestTurn_0 26 rfl) cf9 (by decide) rfl (cI _ my_X9_leadsTo lm_X9_78 (by decide)) vs_X9_leadsTo rfl (fun u hu => sX9_leadsTo _ _ _ _ _ _ _ hu) (fun e => ite_ne (by unfold mX9_leadsTo at e; exact e)) (Nat.zero_le _) rfl (fun v7 => ?_)
          refine j_if_eq (q := 51) (tgt := 56) hx (dc kX9_bestTurn_0 27 rfl) (by decide) Iff.rfl rfl ?_ ?_
          · refine j_aload_n (q := 57) hx (dc kX9_bestTurn_0 32 rfl) rfl 1 rfl rfl ?_
            refine j_iload_n (q := 58) hx (dc kX9_bestTurn_0 33 rfl) rfl 3 rfl rfl ?_
            refine j_iconst (q := 59) (v := (2 : Int32)) hx (dc kX9_bestTurn_0 34 rfl) (by decide) rfl ?_
            refine j_iload (q := 61) hx (dc kX9_bestTurn_0 35 rfl) 0 rfl rfl ?_
            refine j_imul (q := 62) hx (dc kX9_bestTurn_0 36 rfl) rfl ?_
            refine j_iadd (q := 63) hx (dc kX9_bestTurn_0 37 rfl) rfl ?_
            refine j_iload_n (q := 64) hx (dc kX9_bestTurn_0 38 rfl) rfl 4 rfl rfl ?_
            refine w_cVIR (q := 67) (As := [.int (x2 + ((2 : Int32) * v5)), .int x3]) (st := []) hx (dc kX9_bestTurn_0 39 rfl) cf9 (by decide) rfl (cI _ my_X9_leadsTo lm_X9_78 (by decide)) vs_X9_leadsTo rfl (fun u hu => sX9_leadsTo _ _ _ _ _ _ _ hu) (fun e => ite_ne (by unfold mX9_leadsTo at e; exact e)) (Nat.zero_le _) rfl (fun v9 => ?_)
            refine j_if_eq (q := 70) (tgt := 77) hx (dc kX9_bestTurn_0 40 rfl) (by decide) Iff.rfl rfl ?_ ?_
            · exact j_sub [1, 2, 3, 4, 5] rfl (hb77 x0 x1 x2 x3 x4)
            · refine j_exit ?_
              refine j_iconst (q := 71) (v := (2 : Int32)) hx (dc kX9_bestTurn_0 41 rfl) (by decide) rfl ?_
              refine j_iload (q := 73) hx (dc kX9_bestTurn_0 42 rfl) 5 rfl rfl ?_
              refine j_imul (q := 74) hx (dc kX9_bestTurn_0 43 rfl) rfl ?_
              refine j_iconst (q := 75) (v := (1 : Int32)) hx (dc kX9_bestTurn_0 44 rfl) (by decide) rfl ?_
              refine j_iadd (q := 76) hx (dc kX9_bestTurn_0 45 rfl) rfl ?_
              exact r_iR hx hR (dc kX9_bestTurn_0 46 rfl)
          · refine j_exit ?_
            refine j_iconst (q := 52) (v := (2 : Int32)) hx (dc kX9_bestTurn_0 28 rfl) (by decide) rfl ?_
            refine j_iload (q := 54) hx (dc kX9_bestTurn_0 29 rfl) 5 rfl rfl ?_
            refine j_imul (q := 55) hx (dc kX9_bestTurn_0 30 rfl) rfl ?_
            exact r_iR hx hR (dc kX9_bestTurn_0 31 rfl)
    exact j_loop (S := Int32) (lvf := fun s => [(0, vR x.2.2.2 x0), (1, .int x1), (2, .int x2), (3, .int x3), (4, .int s)]) (hpf := fun s => h) (f := (fun s : Int32 => mX9_bestTurn_l3f x0 x1 x2 x3 h s)) (fun s => hB s) x4
  unfold mX9_bestTurn
  refine J.ckd fun hck => ?_
  refine j_iconst (q := 1) (v := (0 : Int32)) hx (dc kX9_bestTurn_0 0 rfl) (by decide) rfl ?_
  refine j_istore (q := 3) (i := 4) (l2 := [(0, vR x.2.2.2 x0), (1, .int x1), (2, .int x2), (3, .int x3)]) hx (dc kX9_bestTurn_0 1 rfl) (hn 4 (by decide)) [0, 1, 2, 3] rfl ⟨⟨show (0 : Nat) ≠ 4 by decide, Or.inl (show (0 : Nat) + 1 ≠ 4 by decide)⟩, ⟨⟨show (1 : Nat) ≠ 4 by decide, Or.inl (show (1 : Nat) + 1 ≠ 4 by decide)⟩, ⟨⟨show (2 : Nat) ≠ 4 by decide, Or.inl (show (2 : Nat) + 1 ≠ 4 by decide)⟩, ⟨⟨show (3 : Nat) ≠ 4 by decide, Or.inr rfl⟩, trivial⟩⟩⟩⟩ rfl ?_
  exact j_sub [1, 2, 3, 4, 0] rfl (hb3 x0 x1 x2 x3 (0 : Int32))

set_option maxHeartbeats 4000000 in
set_option maxRecDepth 100000 in
theorem sX9_winner (l : Launch) (w : Wd) (x0 : Nat) (x1 : Int32) (x2 : Int32) (x3 : Int32) (h : Hp) (u : Int32) (hK : mX9_winner x0 x1 x2 x3 h = some u) : M1 l w mi_X9_winner 4 [vR w x0, .int x1, .int x2, .int x3] h h (some (.int u)) := by
  refine M1.of (own := RX9) (T := fun _ r => r = u) hK (by decide +kernel) rfl (by first | (simp only [lg_lenR, lg_lenI, lg_lenL, lg_len0]; decide) | decide) (fun x hx hnl hhf hl hw hret hnm hQ h0e => ⟨?_, rfl⟩)
  subst hw
  subst hl
  have hR : Rt x h h (some (.int u)) ((some .int)) := ⟨h0e, hhf, hret, hQ⟩
  have hn : ∀ i, i < 5 → i < x.2.2.1.1.1 := fun i hi => by rw [hnl]; exact hi
  have e0 : lv_args 0 [vR x.2.2.2 x0, .int x1, .int x2, .int x3] = [(0, vR x.2.2.2 x0), (1, .int x1), (2, .int x2), (3, .int x3)] := by simp only [lv_argsR, lv_argsI, lv_argsL, lv_args0]
  rw [e0]
  unfold mX9_winner
  refine J.ckd fun hck => ?_
  refine j_iload_n (q := 1) hx (dc kX9_winner_0 0 rfl) rfl 1 rfl rfl ?_
  refine j_aload_n (q := 2) hx (dc kX9_winner_0 1 rfl) rfl 0 rfl rfl ?_
  refine w_gI (q := 5) hx (dc kX9_winner_0 2 rfl) ff_X9_4 lk_X9_36 rfl (fun v1 => ?_)
  refine j_icmp_neS (q := 8) (tgt := 26) hx (dc kX9_winner_0 3 rfl) (by decide) rfl ?_ ?_
  · refine j_iconst (q := 27) (v := (1 : Int32)) hx (dc kX9_winner_0 14 rfl) (by decide) rfl ?_
    refine j_iload_n (q := 28) hx (dc kX9_winner_0 15 rfl) rfl 3 rfl rfl ?_
    refine j_isub (q := 29) hx (dc kX9_winner_0 16 rfl) rfl ?_
    refine j_istore (q := 31) (i := 4) (l2 := [(0, vR x.2.2.2 x0), (1, .int x1), (2, .int x2)]) hx (dc kX9_winner_0 17 rfl) (hn 4 (by decide)) [0, 1, 2] rfl ⟨⟨show (0 : Nat) ≠ 4 by decide, Or.inl (show (0 : Nat) + 1 ≠ 4 by decide)⟩, ⟨⟨show (1 : Nat) ≠ 4 by decide, Or.inl (show (1 : Nat) + 1 ≠ 4 by decide)⟩, ⟨⟨show (2 : Nat) ≠ 4 by decide, Or.inl (show (2 : Nat) + 1 ≠ 4 by decide)⟩, trivial⟩⟩⟩ rfl ?_
    refine j_aload_n (q := 32) hx (dc kX9_winner_0 18 rfl) rfl 1 rfl rfl ?_
    refine j_iload_n (q := 33) hx (dc kX9_winner_0 19 rfl) rfl 2 rfl rfl ?_
    refine j_iload_n (q := 34) hx (dc kX9_winner_0 20 rfl) rfl 3 rfl rfl ?_
    refine j_iload (q := 36) hx (dc kX9_winner_0 21 rfl) 0 rfl rfl ?_
    refine w_cVIR (q := 39) (As := [.int x1, .int x2, .int ((1 : Int32) - x3)]) (st := []) hx (dc kX9_winner_0 22 rfl) cf9 (by decide) rfl (cI _ my_X9_bestTurn lm_X9_75 (by decide)) vs_X9_bestTurn rfl (fun u hu => sX9_bestTurn _ _ _ _ _ _ _ _ hu) (fun e => ite_ne (by unfold mX9_bestTurn at e; exact e)) (Nat.zero_le _) rfl (fun v2 => ?_)
    refine j_if_lt (q := 42) (tgt := 47) hx (dc kX9_winner_0 23 rfl) (by decide) Iff.rfl rfl ?_ ?_
    · refine j_iconst (q := 48) (v := (1 : Int32)) hx (dc kX9_winner_0 26 rfl) (by decide) rfl ?_
      refine j_iload (q := 50) hx (dc kX9_winner_0 27 rfl) 0 rfl rfl ?_
      refine j_isub (q := 51) hx (dc kX9_winner_0 28 rfl) rfl ?_
      exact r_iR hx hR (dc kX9_winner_0 29 rfl)
    · refine j_iload (q := 44) hx (dc kX9_winner_0 24 rfl) 0 rfl rfl ?_
      refine j_goto (q := 51) hx (dc kX9_winner_0 25 rfl) (by decide) ?_
      exact r_iR hx hR (dc kX9_winner_0 29 rfl)
  · refine j_aload_n (q := 9) hx (dc kX9_winner_0 4 rfl) rfl 0 rfl rfl ?_
    refine w_gR (q := 12) hx (dc kX9_winner_0 5 rfl) ff_X9_2 lk_X9_18 rfl (fun v4 => ?_)
    refine j_iload_n (q := 13) hx (dc kX9_winner_0 6 rfl) rfl 2 rfl rfl ?_
    refine w_cSIR (q := 16) (As := [vR x.2.2.2 v4, .int x2]) (st := []) hx (dc kX9_winner_0 7 rfl) (cI _ my_X11_at lm_X9_24 (by decide)) st_X11_at rfl (fun u hu => sX11_at _ _ _ _ _ _ hu) (Nat.zero_le _) rfl (fun v5 => ?_)
    refine j_iconst (q := 17) (v := (1 : Int32)) hx (dc kX9_winner_0 8 rfl) (by decide) rfl ?_
    refine j_icmp_neS (q := 20) (tgt := 24) hx (dc kX9_winner_0 9 rfl) (by decide) rfl ?_ ?_
    · refine j_iconst (q := 25) (v := (0 : Int32)) hx (dc kX9_winner_0 12 rfl) (by decide) rfl ?_
      exact r_iR hx hR (dc kX9_winner_0 13 rfl)
    · refine j_iconst (q := 21) (v := (1 : Int32)) hx (dc kX9_winner_0 10 rfl) (by decide) rfl ?_
      refine j_goto (q := 25) hx (dc kX9_winner_0 11 rfl) (by decide) ?_
      exact r_iR hx hR (dc kX9_winner_0 13 rfl)

set_option maxHeartbeats 4000000 in
set_option maxRecDepth 100000 in
theorem sX9_playOut (l : Launch) (w : Wd) (x0 : Nat) (x1 : Int32) (h : Hp) (u : Hp) (hK : mX9_playOut x0 x1 h = some u) : M1 l w mi_X9_playOut 5 [vR w x0, .int x1] h u (none) := by
  refine M1.of (own := RX9) (T := fun _ r => r = u) hK (by decide +kernel) rfl (by first | (simp only [lg_lenR, lg_lenI, lg_lenL, lg_len0]; decide) | decide) (fun x hx hnl hhf hl hw hret hnm hQ h0e => ⟨?_, rfl⟩)
  subst hw
  subst hl
  have hR : Rt x h u (none) (none) := ⟨h0e, hhf, hret, hQ⟩
  have hn : ∀ i, i < 6 → i < x.2.2.1.1.1 := fun i hi => by rw [hnl]; exact hi
  have e0 : lv_args 0 [vR x.2.2.2 x0, .int x1] = [(0, vR x.2.2.2 x0), (1, .int x1)] := by simp only [lv_argsR, lv_argsI, lv_argsL, lv_args0]
  rw [e0]
  have hb5 : ∀ (x0 : Nat) (x1 : Int32) (x2 : Int32) (h : Hp), J x 5 [(0, vR x.2.2.2 x0), (1, .int x1), (2, .int x2)] [] h (mX9_playOut_l5 x0 x1 x2 h) (fun r => r = u) := by
    intro x0 x1 x2 h
    have hB : ∀ (x2 : Int32) (h : Hp), J x 5 [(0, vR x.2.2.2 x0), (1, .int x1), (2, .int x2)] [] h (mX9_playOut_l5f x0 x1 x2 h) (TLo (S := (Int32 × Hp)) x 5 (fun s => [(0, vR x.2.2.2 x0), (1, .int x1), (2, .int s.1)]) [] (fun s => s.2) (fun r => r = u)) := by
      intro x2 h
      have hb78 : ∀ (x0 : Nat) (x1 : Int32) (x2 : Int32) (h : Hp), J x 78 [(0, vR x.2.2.2 x0), (1, .int x1), (2, .int x2)] [] h (mX9_playOut_b78 x0 x1 x2 h) (TLo (S := (Int32 × Hp)) x 5 (fun s => [(0, vR x.2.2.2 x0), (1, .int x1), (2, .int s.1)]) [] (fun s => s.2) (fun r => r = u)) := by
        intro x0 x1 x2 h
        unfold mX9_playOut_b78
        refine j_iinc (q := 81) (l2 := [(0, vR x.2.2.2 x0), (1, .int x1)]) hx (dc kX9_playOut_0 45 rfl) 2 rfl (v := (-1 : Int32)) (by decide) (hn 2 (by decide)) [0, 1] rfl ⟨⟨show (0 : Nat) ≠ 2 by decide, Or.inl (show (0 : Nat) + 1 ≠ 2 by decide)⟩, ⟨⟨show (1 : Nat) ≠ 2 by decide, Or.inr rfl⟩, trivial⟩⟩ rfl ?_
        refine j_goto (q := 5) hx (dc kX9_playOut_0 46 rfl) (by decide) ?_
        exact j_back [1, 2, 0] ((x2 + (-1 : Int32)), h) rfl rfl
      have hb21 : ∀ (x0 : Nat) (x1 : Int32) (x2 : Int32) (x3 : Int32) (x4 : Int32) (h : Hp), J x 21 [(0, vR x.2.2.2 x0), (1, .int x1), (2, .int x2), (3, .int x3), (4, .int x4)] [] h (mX9_playOut_l21 x0 x1 x2 x3 x4 h) (TLo (S := (Int32 × Hp)) x 5 (fun s => [(0, vR x.2.2.2 x0), (1, .int x1), (2, .int s.1)]) [] (fun s => s.2) (fun r => r = u)) := by
        intro x0 x1 x2 x3 x4 h
        have hB : ∀ (x4 : Int32) (h : Hp), J x 21 [(0, vR x.2.2.2 x0), (1, .int x1), (2, .int x2), (3, .int x3), (4, .int x4)] [] h (mX9_playOut_l21f x0 x1 x2 x3 x4 h) (TLo (S := (Int32 × Hp)) x 21 (fun s => [(0, vR x.2.2.2 x0), (1, .int x1), (2, .int x2), (3, .int x3), (4, .int s.1)]) [] (fun s => s.2) (TLo (S := (Int32 × Hp)) x 5 (fun s => [(0, vR x.2.2.2 x0), (1, .int x1), (2, .int s.1)]) [] (fun s => s.2) (fun r => r = u))) := by
          intro x4 h
          have hb72 : ∀ (x0 : Nat) (x1 : Int32) (x2 : Int32) (x3 : Int32) (x4 : Int32) (h : Hp), J x 72 [(0, vR x.2.2.2 x0), (1, .int x1), (2, .int x2), (3, .int x3), (4, .int x4)] [] h (mX9_playOut_b72 x0 x1 x2 x3 x4 h) (TLo (S := (Int32 × Hp)) x 21 (fun s => [(0, vR x.2.2.2 x0), (1, .int x1), (2, .int x2), (3, .int x3), (4, .int s.1)]) [] (fun s => s.2) (TLo (S := (Int32 × Hp)) x 5 (fun s => [(0, vR x.2.2.2 x0), (1, .int x1), (2, .int s.1)]) [] (fun s => s.2) (fun r => r = u))) := by
            intro x0 x1 x2 x3 x4 h
            unfold mX9_playOut_b72
            refine j_iinc (q := 75) (l2 := [(0, vR x.2.2.2 x0), (1, .int x1), (2, .int x2), (3, .int x3)]) hx (dc kX9_playOut_0 43 rfl) 4 rfl (v := (-1 : Int32)) (by decide) (hn 4 (by decide)) [0, 1, 2, 3] rfl ⟨⟨show (0 : Nat) ≠ 4 by decide, Or.inl (show (0 : Nat) + 1 ≠ 4 by decide)⟩, ⟨⟨show (1 : Nat) ≠ 4 by decide, Or.inl (show (1 : Nat) + 1 ≠ 4 by decide)⟩, ⟨⟨show (2 : Nat) ≠ 4 by decide, Or.inl (show (2 : Nat) + 1 ≠ 4 by decide)⟩, ⟨⟨show (3 : Nat) ≠ 4 by decide, Or.inr rfl⟩, trivial⟩⟩⟩⟩ rfl ?_
            refine j_goto (q := 21) hx (dc kX9_playOut_0 44 rfl) (by decide) ?_
            exact j_back [1, 2, 3, 4, 0] ((x4 + (-1 : Int32)), h) rfl rfl
          unfold mX9_playOut_l21f
          refine j_iload (q := 23) hx (dc kX9_playOut_0 14 rfl) 4 rfl rfl ?_
          refine j_if_lt (q := 26) (tgt := 78) hx (dc kX9_playOut_0 15 rfl) (by decide) Iff.rfl rfl ?_ ?_
          · refine j_exit ?_
            exact j_sub [0, 1, 2] rfl (hb78 x0 x1 x2 h)
          · refine j_iload_n (q := 27) hx (dc kX9_playOut_0 16 rfl) rfl 2 rfl rfl ?_
            refine j_aload_n (q := 28) hx (dc kX9_playOut_0 17 rfl) rfl 0 rfl rfl ?_
            refine w_gI (q := 31) hx (dc kX9_playOut_0 18 rfl) ff_X9_4 lk_X9_36 rfl (fun v4 => ?_)
            refine j_iconst (q := 32) (v := (-1 : Int32)) hx (dc kX9_playOut_0 19 rfl) (by decide) rfl ?_
            refine j_ixor (q := 33) hx (dc kX9_playOut_0 20 rfl) rfl ?_
            refine j_iand (q := 34) hx (dc kX9_playOut_0 21 rfl) rfl ?_
            refine j_if_neS (q := 37) (tgt := 78) hx (dc kX9_playOut_0 22 rfl) (by decide) rfl ?_ ?_
            · refine j_exit ?_
              exact j_sub [0, 1, 2] rfl (hb78 x0 x1 x2 h)
            · refine j_iload (q := 39) hx (dc kX9_playOut_0 23 rfl) 4 rfl rfl ?_
              refine j_iload_n (q := 40) hx (dc kX9_playOut_0 24 rfl) rfl 2 rfl rfl ?_
              refine j_iconst (q := 41) (v := (-1 : Int32)) hx (dc kX9_playOut_0 25 rfl) (by decide) rfl ?_
              refine j_ixor (q := 42) hx (dc kX9_playOut_0 26 rfl) rfl ?_
              refine j_iand (q := 43) hx (dc kX9_playOut_0 27 rfl) rfl ?_
              refine j_if_neS (q := 46) (tgt := 72) hx (dc kX9_playOut_0 28 rfl) (by decide) rfl ?_ ?_
              · exact hb72 x0 x1 x2 x3 x4 h
              · refine j_aload_n (q := 47) hx (dc kX9_playOut_0 29 rfl) rfl 0 rfl rfl ?_
                refine j_iload_n (q := 48) hx (dc kX9_playOut_0 30 rfl) rfl 2 rfl rfl ?_
                refine j_iload (q := 50) hx (dc kX9_playOut_0 31 rfl) 4 rfl rfl ?_
                refine w_cVIR (q := 53) (As := [.int x2, .int x4]) (st := []) hx (dc kX9_playOut_0 32 rfl) cf9 (by decide) rfl (cI _ my_X9_node lm_X9_32 (by decide)) vs_X9_node rfl (fun u hu => sX9_node _ _ _ _ _ _ _ hu) (fun e => ite_ne (by unfold mX9_node at e; exact e)) (Nat.zero_le _) rfl (fun v5 => ?_)
                refine j_istore (q := 55) (i := 5) (l2 := [(0, vR x.2.2.2 x0), (1, .int x1), (2, .int x2), (3, .int x3), (4, .int x4)]) hx (dc kX9_playOut_0 33 rfl) (hn 5 (by decide)) [0, 1, 2, 3, 4] rfl ⟨⟨show (0 : Nat) ≠ 5 by decide, Or.inl (show (0 : Nat) + 1 ≠ 5 by decide)⟩, ⟨⟨show (1 : Nat) ≠ 5 by decide, Or.inl (show (1 : Nat) + 1 ≠ 5 by decide)⟩, ⟨⟨show (2 : Nat) ≠ 5 by decide, Or.inl (show (2 : Nat) + 1 ≠ 5 by decide)⟩, ⟨⟨show (3 : Nat) ≠ 5 by decide, Or.inl (show (3 : Nat) + 1 ≠ 5 by decide)⟩, ⟨⟨show (4 : Nat) ≠ 5 by decide, Or.inr rfl⟩, trivial⟩⟩⟩⟩⟩ rfl ?_
                refine j_aload_n (q := 56) hx (dc kX9_playOut_0 34 rfl) rfl 1 rfl rfl ?_
                refine w_gR (q := 59) hx (dc kX9_playOut_0 35 rfl) ff_X9_3 lk_X9_21 rfl (fun v7 => ?_)
                refine j_iload (q := 61) hx (dc kX9_playOut_0 36 rfl) 0 rfl rfl ?_
                refine j_aload_n (q := 62) hx (dc kX9_playOut_0 37 rfl) rfl 1 rfl rfl ?_
                refine j_iload_n (q := 63) hx (dc kX9_playOut_0 38 rfl) rfl 3 rfl rfl ?_
                refine j_iload (q := 65) hx (dc kX9_playOut_0 39 rfl) 0 rfl rfl ?_
                refine j_iload_n (q := 66) hx (dc kX9_playOut_0 40 rfl) rfl 4 rfl rfl ?_
                refine w_cVIR (q := 69) (As := [.int x2, .int v5, .int x3]) (st := [.int v5, vR x.2.2.2 v7]) hx (dc kX9_playOut_0 41 rfl) cf9 (by decide) rfl (cI _ my_X9_winner lm_X9_71 (by decide)) vs_X9_winner rfl (fun u hu => sX9_winner _ _ _ _ _ _ _ _ hu) (fun e => ite_ne (by unfold mX9_winner at e; exact e)) (sum_le (sum_I (sum_R sum_nil)) (by decide)) rfl (fun v8 => ?_)
                refine w_cSVW (q := 72) (As := [vR x.2.2.2 v7, .int v5, .int v8]) (st := []) hx (dc kX9_playOut_0 42 rfl) (cI _ my_X11_put lm_X9_28 (by decide)) st_X11_put rfl (fun u hu => sX11_put _ _ _ _ _ _ _ hu) (Nat.zero_le _) rfl (fun h11 => ?_)
                exact j_sub [1, 2, 3, 4, 5] rfl (hb72 x0 x1 x2 x3 x4 h11)
        exact j_loop (S := (Int32 × Hp)) (lvf := fun s => [(0, vR x.2.2.2 x0), (1, .int x1), (2, .int x2), (3, .int x3), (4, .int s.1)]) (hpf := fun s => s.2) (f := (fun s : (Int32 × Hp) => mX9_playOut_l21f x0 x1 x2 x3 s.1 s.2)) (fun s => hB s.1 s.2) (x4, h)
      unfold mX9_playOut_l5f
      refine j_iload_n (q := 6) hx (dc kX9_playOut_0 3 rfl) rfl 2 rfl rfl ?_
      refine j_if_lt (q := 9) (tgt := 84) hx (dc kX9_playOut_0 4 rfl) (by decide) Iff.rfl rfl ?_ ?_
      · refine j_exit ?_
        exact r_vW hx hR (dc kX9_playOut_0 47 rfl)
      · refine j_iload_n (q := 10) hx (dc kX9_playOut_0 5 rfl) rfl 1 rfl rfl ?_
        refine j_iload_n (q := 11) hx (dc kX9_playOut_0 6 rfl) rfl 2 rfl rfl ?_
        refine w_cSIR (q := 14) (As := [.int x2]) (st := [.int x1]) hx (dc kX9_playOut_0 7 rfl) (cI _ my_J6_bitCount_0f7a4 lm_X9_65 (by decide)) st_J6_bitCount_0f7a4 rfl (fun u hu => sJ6_bitCount_0f7a4 _ _ _ _ _ hu) (sum_le (sum_I sum_nil) (by decide)) rfl (fun v2 => ?_)
        refine j_iadd (q := 15) hx (dc kX9_playOut_0 8 rfl) rfl ?_
        refine j_iconst (q := 16) (v := (1 : Int32)) hx (dc kX9_playOut_0 9 rfl) (by decide) rfl ?_
        refine j_iand (q := 17) hx (dc kX9_playOut_0 10 rfl) rfl ?_
        refine j_istore_n (q := 18) (i := 3) (l2 := [(0, vR x.2.2.2 x0), (1, .int x1), (2, .int x2)]) hx (dc kX9_playOut_0 11 rfl) rfl (hn 3 (by decide)) [0, 1, 2] rfl ⟨⟨show (0 : Nat) ≠ 3 by decide, Or.inl (show (0 : Nat) + 1 ≠ 3 by decide)⟩, ⟨⟨show (1 : Nat) ≠ 3 by decide, Or.inl (show (1 : Nat) + 1 ≠ 3 by decide)⟩, ⟨⟨show (2 : Nat) ≠ 3 by decide, Or.inr rfl⟩, trivial⟩⟩⟩ rfl ?_
        refine j_iload_n (q := 19) hx (dc kX9_playOut_0 12 rfl) rfl 3 rfl rfl ?_
        refine j_istore (q := 21) (i := 4) (l2 := [(3, .int ((x1 + v2) &&& (1 : Int32))), (0, vR x.2.2.2 x0), (1, .int x1), (2, .int x2)]) hx (dc kX9_playOut_0 13 rfl) (hn 4 (by decide)) [0, 1, 2, 3] rfl ⟨⟨show (3 : Nat) ≠ 4 by decide, Or.inr rfl⟩, ⟨⟨show (0 : Nat) ≠ 4 by decide, Or.inl (show (0 : Nat) + 1 ≠ 4 by decide)⟩, ⟨⟨show (1 : Nat) ≠ 4 by decide, Or.inl (show (1 : Nat) + 1 ≠ 4 by decide)⟩, ⟨⟨show (2 : Nat) ≠ 4 by decide, Or.inl (show (2 : Nat) + 1 ≠ 4 by decide)⟩, trivial⟩⟩⟩⟩ rfl ?_
        exact j_sub [2, 3, 4, 1, 0] rfl (hb21 x0 x1 x2 ((x1 + v2) &&& (1 : Int32)) x2 h)
    exact j_loop (S := (Int32 × Hp)) (lvf := fun s => [(0, vR x.2.2.2 x0), (1, .int x1), (2, .int s.1)]) (hpf := fun s => s.2) (f := (fun s : (Int32 × Hp) => mX9_playOut_l5f x0 x1 s.1 s.2)) (fun s => hB s.1 s.2) (x2, h)
  unfold mX9_playOut
  refine J.ckd fun hck => ?_
  refine j_aload_n (q := 1) hx (dc kX9_playOut_0 0 rfl) rfl 0 rfl rfl ?_
  refine w_gI (q := 4) hx (dc kX9_playOut_0 1 rfl) ff_X9_4 lk_X9_36 rfl (fun v1 => ?_)
  refine j_istore_n (q := 5) (i := 2) (l2 := [(0, vR x.2.2.2 x0), (1, .int x1)]) hx (dc kX9_playOut_0 2 rfl) rfl (hn 2 (by decide)) [0, 1] rfl ⟨⟨show (0 : Nat) ≠ 2 by decide, Or.inl (show (0 : Nat) + 1 ≠ 2 by decide)⟩, ⟨⟨show (1 : Nat) ≠ 2 by decide, Or.inr rfl⟩, trivial⟩⟩ rfl ?_
  exact j_sub [1, 2, 0] rfl (hb5 x0 x1 v1 h)

set_option maxHeartbeats 4000000 in
set_option maxRecDepth 100000 in
theorem sX9_winningTurn (l : Launch) (w : Wd) (x0 : Nat) (x1 : Int32) (h : Hp) (u : Int32) (hK : mX9_winningTurn x0 x1 h = some u) : M1 l w mi_X9_winningTurn 4 [vR w x0, .int x1] h h (some (.int u)) := by
  refine M1.of (own := RX9) (T := fun _ r => r = u) hK (by decide +kernel) rfl (by first | (simp only [lg_lenR, lg_lenI, lg_lenL, lg_len0]; decide) | decide) (fun x hx hnl hhf hl hw hret hnm hQ h0e => ⟨?_, rfl⟩)
  subst hw
  subst hl
  have hR : Rt x h h (some (.int u)) ((some .int)) := ⟨h0e, hhf, hret, hQ⟩
  have hn : ∀ i, i < 2 → i < x.2.2.1.1.1 := fun i hi => by rw [hnl]; exact hi
  have e0 : lv_args 0 [vR x.2.2.2 x0, .int x1] = [(0, vR x.2.2.2 x0), (1, .int x1)] := by simp only [lv_argsR, lv_argsI, lv_argsL, lv_args0]
  rw [e0]
  unfold mX9_winningTurn
  refine J.ckd fun hck => ?_
  refine j_aload_n (q := 1) hx (dc kX9_winningTurn_0 0 rfl) rfl 0 rfl rfl ?_
  refine j_iconst (q := 2) (v := (0 : Int32)) hx (dc kX9_winningTurn_0 1 rfl) (by decide) rfl ?_
  refine j_iconst (q := 3) (v := (0 : Int32)) hx (dc kX9_winningTurn_0 2 rfl) (by decide) rfl ?_
  refine j_iconst (q := 4) (v := (1 : Int32)) hx (dc kX9_winningTurn_0 3 rfl) (by decide) rfl ?_
  refine j_iload_n (q := 5) hx (dc kX9_winningTurn_0 4 rfl) rfl 1 rfl rfl ?_
  refine j_isub (q := 6) hx (dc kX9_winningTurn_0 5 rfl) rfl ?_
  refine w_cVIR (q := 9) (As := [.int (0 : Int32), .int (0 : Int32), .int ((1 : Int32) - x1)]) (st := []) hx (dc kX9_winningTurn_0 6 rfl) cf9 (by decide) rfl (cI _ my_X9_bestTurn lm_X9_75 (by decide)) vs_X9_bestTurn rfl (fun u hu => sX9_bestTurn _ _ _ _ _ _ _ _ hu) (fun e => ite_ne (by unfold mX9_bestTurn at e; exact e)) (Nat.zero_le _) rfl (fun v1 => ?_)
  exact r_iR hx hR (dc kX9_winningTurn_0 7 rfl)

set_option maxHeartbeats 4000000 in
set_option maxRecDepth 100000 in
theorem sX9_isProof (l : Launch) (w : Wd) (x0 : Nat) (x1 : Int32) (x2 : Int32) (x3 : Int32) (h : Hp) (u : Int32) (hK : mX9_isProof x0 x1 x2 x3 h = some u) : M1 l w mi_X9_isProof 3 [vR w x0, .int x1, .int x2, .int x3] h h (some (.int u)) := by
  refine M1.of (own := RX9) (T := fun _ r => r = u) hK (by decide +kernel) rfl (by first | (simp only [lg_lenR, lg_lenI, lg_lenL, lg_len0]; decide) | decide) (fun x hx hnl hhf hl hw hret hnm hQ h0e => ⟨?_, rfl⟩)
  subst hw
  subst hl
  have hR : Rt x h h (some (.int u)) ((some .boolean)) := ⟨h0e, hhf, hret, hQ⟩
  have hn : ∀ i, i < 7 → i < x.2.2.1.1.1 := fun i hi => by rw [hnl]; exact hi
  have e0 : lv_args 0 [vR x.2.2.2 x0, .int x1, .int x2, .int x3] = [(0, vR x.2.2.2 x0), (1, .int x1), (2, .int x2), (3, .int x3)] := by simp only [lv_argsR, lv_argsI, lv_argsL, lv_args0]
  rw [e0]
  have hb26 : ∀ (x0 : Nat) (x1 : Int32) (x2 : Int32) (x3 : Int32) (x4 : Int32) (x5 : Int32), J x 26 [(0, vR x.2.2.2 x0), (1, .int x1), (2, .int x2), (3, .int x3), (4, .int x4), (5, .int x5)] [] h (mX9_isProof_l26 x0 x1 x2 x3 x4 x5 h) (fun r => r = u) := by
    intro x0 x1 x2 x3 x4 x5
    have hB : ∀ (x5 : Int32), J x 26 [(0, vR x.2.2.2 x0), (1, .int x1), (2, .int x2), (3, .int x3), (4, .int x4), (5, .int x5)] [] h (mX9_isProof_l26f x0 x1 x2 x3 x4 h x5) (TLo (S := Int32) x 26 (fun s => [(0, vR x.2.2.2 x0), (1, .int x1), (2, .int x2), (3, .int x3), (4, .int x4), (5, .int s)]) [] (fun s => h) (fun r => r = u)) := by
      intro x5
      have hb88 : ∀ (x0 : Nat) (x1 : Int32) (x2 : Int32) (x3 : Int32) (x4 : Int32) (x5 : Int32), J x 88 [(0, vR x.2.2.2 x0), (1, .int x1), (2, .int x2), (3, .int x3), (4, .int x4), (5, .int x5)] [] h (mX9_isProof_b88 x0 x1 x2 x3 x4 x5 h) (TLo (S := Int32) x 26 (fun s => [(0, vR x.2.2.2 x0), (1, .int x1), (2, .int x2), (3, .int x3), (4, .int x4), (5, .int s)]) [] (fun s => h) (fun r => r = u)) := by
        intro x0 x1 x2 x3 x4 x5
        unfold mX9_isProof_b88
        refine j_iinc (q := 91) (l2 := [(0, vR x.2.2.2 x0), (1, .int x1), (2, .int x2), (3, .int x3), (4, .int x4)]) hx (dc kX9_isProof_0 47 rfl) 5 rfl (v := (1 : Int32)) (by decide) (hn 5 (by decide)) [0, 1, 2, 3, 4] rfl ⟨⟨show (0 : Nat) ≠ 5 by decide, Or.inl (show (0 : Nat) + 1 ≠ 5 by decide)⟩, ⟨⟨show (1 : Nat) ≠ 5 by decide, Or.inl (show (1 : Nat) + 1 ≠ 5 by decide)⟩, ⟨⟨show (2 : Nat) ≠ 5 by decide, Or.inl (show (2 : Nat) + 1 ≠ 5 by decide)⟩, ⟨⟨show (3 : Nat) ≠ 5 by decide, Or.inl (show (3 : Nat) + 1 ≠ 5 by decide)⟩, ⟨⟨show (4 : Nat) ≠ 5 by decide, Or.inr rfl⟩, trivial⟩⟩⟩⟩⟩ rfl ?_
        refine j_goto (q := 26) hx (dc kX9_isProof_0 48 rfl) (by decide) ?_
        exact j_back [1, 2, 3, 4, 5, 0] (x5 + (1 : Int32)) rfl rfl
      have hb47 : ∀ (x0 : Nat) (x1 : Int32) (x2 : Int32) (x3 : Int32) (x4 : Int32) (x5 : Int32) (t0 : Int32), J x 47 [(0, vR x.2.2.2 x0), (1, .int x1), (2, .int x2), (3, .int x3), (4, .int x4), (5, .int x5)] [.int t0] h (mX9_isProof_b47 x0 x1 x2 x3 x4 x5 t0 h) (TLo (S := Int32) x 26 (fun s => [(0, vR x.2.2.2 x0), (1, .int x1), (2, .int x2), (3, .int x3), (4, .int x4), (5, .int s)]) [] (fun s => h) (fun r => r = u)) := by
        intro x0 x1 x2 x3 x4 x5 t0
        unfold mX9_isProof_b47
        refine j_istore (q := 49) (i := 6) (l2 := [(0, vR x.2.2.2 x0), (1, .int x1), (2, .int x2), (3, .int x3), (4, .int x4), (5, .int x5)]) hx (dc kX9_isProof_0 25 rfl) (hn 6 (by decide)) [0, 1, 2, 3, 4, 5] rfl ⟨⟨show (0 : Nat) ≠ 6 by decide, Or.inl (show (0 : Nat) + 1 ≠ 6 by decide)⟩, ⟨⟨show (1 : Nat) ≠ 6 by decide, Or.inl (show (1 : Nat) + 1 ≠ 6 by decide)⟩, ⟨⟨show (2 : Nat) ≠ 6 by decide, Or.inl (show (2 : Nat) + 1 ≠ 6 by decide)⟩, ⟨⟨show (3 : Nat) ≠ 6 by decide, Or.inl (show (3 : Nat) + 1 ≠ 6 by decide)⟩, ⟨⟨show (4 : Nat) ≠ 6 by decide, Or.inl (show (4 : Nat) + 1 ≠ 6 by decide)⟩, ⟨⟨show (5 : Nat) ≠ 6 by decide, Or.inr rfl⟩, trivial⟩⟩⟩⟩⟩⟩ rfl ?_
        refine j_iload_n (q := 50) hx (dc kX9_isProof_0 26 rfl) rfl 2 rfl rfl ?_
        refine j_iload (q := 52) hx (dc kX9_isProof_0 27 rfl) 6 rfl rfl ?_
        refine w_cSIR (q := 55) (As := [.int x1, .int x5]) (st := []) hx (dc kX9_isProof_0 28 rfl) (cI _ my_X11_has lm_X9_46 (by decide)) st_X11_has rfl (fun u hu => sX11_has _ _ _ _ _ _ hu) (Nat.zero_le _) rfl (fun v8 => ?_)
        refine j_if_eq (q := 58) (tgt := 88) hx (dc kX9_isProof_0 29 rfl) (by decide) Iff.rfl rfl ?_ ?_
        · exact j_sub [1, 2, 3, 4, 5, 6] rfl (hb88 x0 x1 x2 x3 x4 x5)
        · refine j_aload_n (q := 59) hx (dc kX9_isProof_0 30 rfl) rfl 1 rfl rfl ?_
          refine w_gR (q := 62) hx (dc kX9_isProof_0 31 rfl) ff_X9_2 lk_X9_18 rfl (fun v10 => ?_)
          refine j_iload (q := 64) hx (dc kX9_isProof_0 32 rfl) 5 rfl rfl ?_
          refine j_iload (q := 66) hx (dc kX9_isProof_0 33 rfl) 0 rfl rfl ?_
          refine j_aload_n (q := 67) hx (dc kX9_isProof_0 34 rfl) rfl 1 rfl rfl ?_
          refine w_gR (q := 70) hx (dc kX9_isProof_0 35 rfl) ff_X9_0 lk_X9_9 rfl (fun v11 => ?_)
          refine j_iconst (q := 71) (v := (1 : Int32)) hx (dc kX9_isProof_0 36 rfl) (by decide) rfl ?_
          refine j_iload (q := 73) hx (dc kX9_isProof_0 37 rfl) 6 rfl rfl ?_
          refine j_ishl (q := 74) hx (dc kX9_isProof_0 38 rfl) rfl ?_
          refine w_cSIR (q := 77) (As := [vR x.2.2.2 v11, .int ((1 : Int32) <<< (x5 &&& 31))]) (st := [.int t0, .int x4, vR x.2.2.2 v10]) hx (dc kX9_isProof_0 39 rfl) (cI _ my_X11_at lm_X9_24 (by decide)) st_X11_at rfl (fun u hu => sX11_at _ _ _ _ _ _ hu) (sum_le (sum_I (sum_I (sum_R sum_nil))) (by decide)) rfl (fun v12 => ?_)
          refine j_imul (q := 78) hx (dc kX9_isProof_0 40 rfl) rfl ?_
          refine j_isub (q := 79) hx (dc kX9_isProof_0 41 rfl) rfl ?_
          refine w_cSIR (q := 82) (As := [vR x.2.2.2 v10, .int (x4 - (t0 * v12))]) (st := []) hx (dc kX9_isProof_0 42 rfl) (cI _ my_X11_at lm_X9_24 (by decide)) st_X11_at rfl (fun u hu => sX11_at _ _ _ _ _ _ hu) (Nat.zero_le _) rfl (fun v14 => ?_)
          refine j_iload_n (q := 83) hx (dc kX9_isProof_0 43 rfl) rfl 4 rfl rfl ?_
          refine j_icmp_neS (q := 86) (tgt := 88) hx (dc kX9_isProof_0 44 rfl) (by decide) rfl ?_ ?_
          · exact j_sub [1, 2, 3, 4, 5, 6] rfl (hb88 x0 x1 x2 x3 x4 x5)
          · refine j_exit ?_
            refine j_iconst (q := 87) (v := (0 : Int32)) hx (dc kX9_isProof_0 45 rfl) (by decide) rfl ?_
            exact r_cR hx (Or.inl rfl) hR (dc kX9_isProof_0 46 rfl)
      unfold mX9_isProof_l26f
      refine j_iload (q := 28) hx (dc kX9_isProof_0 15 rfl) 5 rfl rfl ?_
      refine j_bipush (q := 30) (v := (8 : Int32)) hx (dc kX9_isProof_0 16 rfl) (by decide) rfl ?_
      refine j_icmp_geS (q := 33) (tgt := 94) hx (dc kX9_isProof_0 17 rfl) (by decide) rfl ?_ ?_
      · refine j_exit ?_
        refine j_iconst (q := 95) (v := (1 : Int32)) hx (dc kX9_isProof_0 49 rfl) (by decide) rfl ?_
        exact r_cR hx (Or.inr rfl) hR (dc kX9_isProof_0 50 rfl)
      · refine j_iload_n (q := 34) hx (dc kX9_isProof_0 18 rfl) rfl 2 rfl rfl ?_
        refine j_iload (q := 36) hx (dc kX9_isProof_0 19 rfl) 5 rfl rfl ?_
        refine w_cSIR (q := 39) (As := [.int x2, .int x5]) (st := []) hx (dc kX9_isProof_0 20 rfl) (cI _ my_X11_has lm_X9_46 (by decide)) st_X11_has rfl (fun u hu => sX11_has _ _ _ _ _ _ hu) (Nat.zero_le _) rfl (fun v6 => ?_)
        refine j_if_eq (q := 42) (tgt := 46) hx (dc kX9_isProof_0 21 rfl) (by decide) Iff.rfl rfl ?_ ?_
        · refine j_iconst (q := 47) (v := (1 : Int32)) hx (dc kX9_isProof_0 24 rfl) (by decide) rfl ?_
          exact hb47 x0 x1 x2 x3 x4 x5 (1 : Int32)
        · refine j_iconst (q := 43) (v := (2 : Int32)) hx (dc kX9_isProof_0 22 rfl) (by decide) rfl ?_
          refine j_goto (q := 47) hx (dc kX9_isProof_0 23 rfl) (by decide) ?_
          exact hb47 x0 x1 x2 x3 x4 x5 (2 : Int32)
    exact j_loop (S := Int32) (lvf := fun s => [(0, vR x.2.2.2 x0), (1, .int x1), (2, .int x2), (3, .int x3), (4, .int x4), (5, .int s)]) (hpf := fun s => h) (f := (fun s : Int32 => mX9_isProof_l26f x0 x1 x2 x3 x4 h s)) (fun s => hB s) x5
  unfold mX9_isProof
  refine J.ckd fun hck => ?_
  refine j_aload_n (q := 1) hx (dc kX9_isProof_0 0 rfl) rfl 0 rfl rfl ?_
  refine j_iload_n (q := 2) hx (dc kX9_isProof_0 1 rfl) rfl 1 rfl rfl ?_
  refine j_iload_n (q := 3) hx (dc kX9_isProof_0 2 rfl) rfl 2 rfl rfl ?_
  refine w_cVIR (q := 6) (As := [.int x1, .int x2]) (st := []) hx (dc kX9_isProof_0 3 rfl) cf9 (by decide) rfl (cI _ my_X9_node lm_X9_32 (by decide)) vs_X9_node rfl (fun u hu => sX9_node _ _ _ _ _ _ _ hu) (fun e => ite_ne (by unfold mX9_node at e; exact e)) (Nat.zero_le _) rfl (fun v1 => ?_)
  refine j_istore (q := 8) (i := 4) (l2 := [(0, vR x.2.2.2 x0), (1, .int x1), (2, .int x2), (3, .int x3)]) hx (dc kX9_isProof_0 4 rfl) (hn 4 (by decide)) [0, 1, 2, 3] rfl ⟨⟨show (0 : Nat) ≠ 4 by decide, Or.inl (show (0 : Nat) + 1 ≠ 4 by decide)⟩, ⟨⟨show (1 : Nat) ≠ 4 by decide, Or.inl (show (1 : Nat) + 1 ≠ 4 by decide)⟩, ⟨⟨show (2 : Nat) ≠ 4 by decide, Or.inl (show (2 : Nat) + 1 ≠ 4 by decide)⟩, ⟨⟨show (3 : Nat) ≠ 4 by decide, Or.inr rfl⟩, trivial⟩⟩⟩⟩ rfl ?_
  refine j_aload_n (q := 9) hx (dc kX9_isProof_0 5 rfl) rfl 1 rfl rfl ?_
  refine w_gR (q := 12) hx (dc kX9_isProof_0 6 rfl) ff_X9_2 lk_X9_18 rfl (fun v3 => ?_)
  refine j_iload (q := 14) hx (dc kX9_isProof_0 7 rfl) 0 rfl rfl ?_
  refine w_cSIR (q := 17) (As := [vR x.2.2.2 v3, .int v1]) (st := []) hx (dc kX9_isProof_0 8 rfl) (cI _ my_X11_at lm_X9_24 (by decide)) st_X11_at rfl (fun u hu => sX11_at _ _ _ _ _ _ hu) (Nat.zero_le _) rfl (fun v4 => ?_)
  refine j_iload_n (q := 18) hx (dc kX9_isProof_0 9 rfl) rfl 4 rfl rfl ?_
  refine j_icmp_eq (q := 21) (tgt := 23) hx (dc kX9_isProof_0 10 rfl) (by decide) Iff.rfl rfl ?_ ?_
  · refine j_iconst (q := 24) (v := (0 : Int32)) hx (dc kX9_isProof_0 13 rfl) (by decide) rfl ?_
    refine j_istore (q := 26) (i := 5) (l2 := [(4, .int v1), (0, vR x.2.2.2 x0), (1, .int x1), (2, .int x2), (3, .int x3)]) hx (dc kX9_isProof_0 14 rfl) (hn 5 (by decide)) [0, 1, 2, 3, 4] rfl ⟨⟨show (4 : Nat) ≠ 5 by decide, Or.inr rfl⟩, ⟨⟨show (0 : Nat) ≠ 5 by decide, Or.inl (show (0 : Nat) + 1 ≠ 5 by decide)⟩, ⟨⟨show (1 : Nat) ≠ 5 by decide, Or.inl (show (1 : Nat) + 1 ≠ 5 by decide)⟩, ⟨⟨show (2 : Nat) ≠ 5 by decide, Or.inl (show (2 : Nat) + 1 ≠ 5 by decide)⟩, ⟨⟨show (3 : Nat) ≠ 5 by decide, Or.inl (show (3 : Nat) + 1 ≠ 5 by decide)⟩, trivial⟩⟩⟩⟩⟩ rfl ?_
    exact j_sub [2, 3, 4, 5, 1, 0] rfl (hb26 x0 x1 x2 x3 v1 (0 : Int32))
  · refine j_iconst (q := 22) (v := (0 : Int32)) hx (dc kX9_isProof_0 11 rfl) (by decide) rfl ?_
    exact r_cR hx (Or.inl rfl) hR (dc kX9_isProof_0 12 rfl)

set_option maxHeartbeats 4000000 in
set_option maxRecDepth 100000 in
theorem sX10_copy (l : Launch) (w : Wd) (x0 : Nat) (x1 : Nat) (h : Hp) (u : Hp) (hK : mX10_copy x0 x1 h = some u) : M1 l w mi_X10_copy 1 [vR w x0, vR w x1] h u (none) := by
  refine M1.of (own := RX10) (T := fun _ r => r = u) hK (by decide +kernel) rfl (by first | (simp only [lg_lenR, lg_lenI, lg_lenL, lg_len0]; decide) | decide) (fun x hx hnl hhf hl hw hret hnm hQ h0e => ⟨?_, rfl⟩)
  subst hw
  subst hl
  have hR : Rt x h u (none) (none) := ⟨h0e, hhf, hret, hQ⟩
  have hn : ∀ i, i < 3 → i < x.2.2.1.1.1 := fun i hi => by rw [hnl]; exact hi
  have e0 : lv_args 0 [vR x.2.2.2 x0, vR x.2.2.2 x1] = [(0, vR x.2.2.2 x0), (1, vR x.2.2.2 x1)] := by simp only [lv_argsR, lv_argsI, lv_argsL, lv_args0]
  rw [e0]
  have hb2 : ∀ (x0 : Nat) (x1 : Nat) (x2 : Int32) (h : Hp), J x 2 [(0, vR x.2.2.2 x0), (1, vR x.2.2.2 x1), (2, .int x2)] [] h (mX10_copy_l2 x0 x1 x2 h) (fun r => r = u) := by
    intro x0 x1 x2 h
    have hB : ∀ (x2 : Int32) (h : Hp), J x 2 [(0, vR x.2.2.2 x0), (1, vR x.2.2.2 x1), (2, .int x2)] [] h (mX10_copy_l2f x0 x1 x2 h) (TLo (S := (Int32 × Hp)) x 2 (fun s => [(0, vR x.2.2.2 x0), (1, vR x.2.2.2 x1), (2, .int s.1)]) [] (fun s => s.2) (fun r => r = u)) := by
      intro x2 h
      unfold mX10_copy_l2f
      refine j_iload_n (q := 3) hx (dc kX10_copy_0 2 rfl) rfl 2 rfl rfl ?_
      refine j_aload_n (q := 4) hx (dc kX10_copy_0 3 rfl) rfl 0 rfl rfl ?_
      refine w_gR (q := 7) hx (dc kX10_copy_0 4 rfl) ff_X10_0 lk_X10_9 rfl (fun v1 => ?_)
      refine j_alen (q := 8) hx (dc kX10_copy_0 5 rfl) rfl (fun v2 => ?_)
      refine j_icmp_geS (q := 11) (tgt := 38) hx (dc kX10_copy_0 6 rfl) (by decide) rfl ?_ ?_
      · refine j_exit ?_
        exact r_vW hx hR (dc kX10_copy_0 22 rfl)
      · refine j_iload_n (q := 12) hx (dc kX10_copy_0 7 rfl) rfl 2 rfl rfl ?_
        refine j_aload_n (q := 13) hx (dc kX10_copy_0 8 rfl) rfl 1 rfl rfl ?_
        refine w_gR (q := 16) hx (dc kX10_copy_0 9 rfl) ff_X10_0 lk_X10_9 rfl (fun v3 => ?_)
        refine j_alen (q := 17) hx (dc kX10_copy_0 10 rfl) rfl (fun v4 => ?_)
        refine j_icmp_geS (q := 20) (tgt := 38) hx (dc kX10_copy_0 11 rfl) (by decide) rfl ?_ ?_
        · refine j_exit ?_
          exact r_vW hx hR (dc kX10_copy_0 22 rfl)
        · refine j_aload_n (q := 21) hx (dc kX10_copy_0 12 rfl) rfl 0 rfl rfl ?_
          refine w_gR (q := 24) hx (dc kX10_copy_0 13 rfl) ff_X10_0 lk_X10_9 rfl (fun v5 => ?_)
          refine j_iload_n (q := 25) hx (dc kX10_copy_0 14 rfl) rfl 2 rfl rfl ?_
          refine j_aload_n (q := 26) hx (dc kX10_copy_0 15 rfl) rfl 1 rfl rfl ?_
          refine w_gR (q := 29) hx (dc kX10_copy_0 16 rfl) ff_X10_0 lk_X10_9 rfl (fun v6 => ?_)
          refine j_iload_n (q := 30) hx (dc kX10_copy_0 17 rfl) rfl 2 rfl rfl ?_
          refine j_ldL (q := 31) hx (dc kX10_copy_0 18 rfl) rfl (fun v7 => ?_)
          refine w_stL (q := 32) hx (dc kX10_copy_0 19 rfl) rfl (fun h8 => ?_)
          refine j_iinc (q := 35) (l2 := [(0, vR x.2.2.2 x0), (1, vR x.2.2.2 x1)]) hx (dc kX10_copy_0 20 rfl) 2 rfl (v := (1 : Int32)) (by decide) (hn 2 (by decide)) [0, 1] rfl ⟨⟨show (0 : Nat) ≠ 2 by decide, Or.inl (show (0 : Nat) + 1 ≠ 2 by decide)⟩, ⟨⟨show (1 : Nat) ≠ 2 by decide, Or.inr (vR_cat _ _)⟩, trivial⟩⟩ rfl ?_
          refine j_goto (q := 2) hx (dc kX10_copy_0 21 rfl) (by decide) ?_
          exact j_back [1, 2, 0] ((x2 + (1 : Int32)), h8) rfl rfl
    exact j_loop (S := (Int32 × Hp)) (lvf := fun s => [(0, vR x.2.2.2 x0), (1, vR x.2.2.2 x1), (2, .int s.1)]) (hpf := fun s => s.2) (f := (fun s : (Int32 × Hp) => mX10_copy_l2f x0 x1 s.1 s.2)) (fun s => hB s.1 s.2) (x2, h)
  unfold mX10_copy
  refine J.ckd fun hck => ?_
  refine j_iconst (q := 1) (v := (0 : Int32)) hx (dc kX10_copy_0 0 rfl) (by decide) rfl ?_
  refine j_istore_n (q := 2) (i := 2) (l2 := [(0, vR x.2.2.2 x0), (1, vR x.2.2.2 x1)]) hx (dc kX10_copy_0 1 rfl) rfl (hn 2 (by decide)) [0, 1] rfl ⟨⟨show (0 : Nat) ≠ 2 by decide, Or.inl (show (0 : Nat) + 1 ≠ 2 by decide)⟩, ⟨⟨show (1 : Nat) ≠ 2 by decide, Or.inr (vR_cat _ _)⟩, trivial⟩⟩ rfl ?_
  exact j_sub [1, 2, 0] rfl (hb2 x0 x1 (0 : Int32) h)

set_option maxHeartbeats 4000000 in
set_option maxRecDepth 100000 in
theorem sX10_howIn (l : Launch) (w : Wd) (x0 : Nat) (x1 : Nat) (h : Hp) (u : Int32) (hK : mX10_howIn x0 x1 h = some u) : M1 l w mi_X10_howIn 2 [vR w x0, vR w x1] h h (some (.int u)) := by
  refine M1.of (own := RX10) (T := fun _ r => r = u) hK (by decide +kernel) rfl (by first | (simp only [lg_lenR, lg_lenI, lg_lenL, lg_len0]; decide) | decide) (fun x hx hnl hhf hl hw hret hnm hQ h0e => ⟨?_, rfl⟩)
  subst hw
  subst hl
  have hR : Rt x h h (some (.int u)) ((some .int)) := ⟨h0e, hhf, hret, hQ⟩
  have hn : ∀ i, i < 2 → i < x.2.2.1.1.1 := fun i hi => by rw [hnl]; exact hi
  have e0 : lv_args 0 [vR x.2.2.2 x0, vR x.2.2.2 x1] = [(0, vR x.2.2.2 x0), (1, vR x.2.2.2 x1)] := by simp only [lv_argsR, lv_argsI, lv_argsL, lv_args0]
  rw [e0]
  unfold mX10_howIn
  refine J.ckd fun hck => ?_
  refine j_aload_n (q := 1) hx (dc kX10_howIn_0 0 rfl) rfl 0 rfl rfl ?_
  refine j_aload_n (q := 2) hx (dc kX10_howIn_0 1 rfl) rfl 1 rfl rfl ?_
  refine w_cVIR (q := 5) (As := [vR x.2.2.2 x1]) (st := []) hx (dc kX10_howIn_0 2 rfl) cf10 (by decide) rfl (cI _ my_X10_within lm_X10_42 (by decide)) vs_X10_within rfl (fun u hu => sX10_within _ _ _ _ _ _ hu) (fun e => ite_ne (by unfold mX10_within at e; exact e)) (Nat.zero_le _) rfl (fun v1 => ?_)
  refine j_if_eq (q := 8) (tgt := 12) hx (dc kX10_howIn_0 3 rfl) (by decide) Iff.rfl rfl ?_ ?_
  · refine j_aload_n (q := 13) hx (dc kX10_howIn_0 6 rfl) rfl 0 rfl rfl ?_
    refine j_aload_n (q := 14) hx (dc kX10_howIn_0 7 rfl) rfl 1 rfl rfl ?_
    refine w_cVIR (q := 17) (As := [vR x.2.2.2 x1]) (st := []) hx (dc kX10_howIn_0 8 rfl) cf10 (by decide) rfl (cI _ my_X10_meets lm_X10_46 (by decide)) vs_X10_meets rfl (fun u hu => sX10_meets _ _ _ _ _ _ hu) (fun e => ite_ne (by unfold mX10_meets at e; exact e)) (Nat.zero_le _) rfl (fun v3 => ?_)
    refine j_if_eq (q := 20) (tgt := 24) hx (dc kX10_howIn_0 9 rfl) (by decide) Iff.rfl rfl ?_ ?_
    · refine j_iconst (q := 25) (v := (0 : Int32)) hx (dc kX10_howIn_0 12 rfl) (by decide) rfl ?_
      exact r_iR hx hR (dc kX10_howIn_0 13 rfl)
    · refine j_iconst (q := 21) (v := (2 : Int32)) hx (dc kX10_howIn_0 10 rfl) (by decide) rfl ?_
      refine j_goto (q := 25) hx (dc kX10_howIn_0 11 rfl) (by decide) ?_
      exact r_iR hx hR (dc kX10_howIn_0 13 rfl)
  · refine j_iconst (q := 9) (v := (1 : Int32)) hx (dc kX10_howIn_0 4 rfl) (by decide) rfl ?_
    refine j_goto (q := 25) hx (dc kX10_howIn_0 5 rfl) (by decide) ?_
    exact r_iR hx hR (dc kX10_howIn_0 13 rfl)

set_option maxHeartbeats 4000000 in
set_option maxRecDepth 100000 in
theorem sX11_init {x0 : Nat} (hvx0 : x0 ≠ 0) (l : Launch) (w : Wd) (h : Hp) (u : Hp) (hK : mX11_init x0 h = some u) : M1 l w mi_X11_init 7 [vR w x0] h u (none) := by
  refine M1.of (own := RX11) (T := fun _ r => r = u) hK (by decide +kernel) rfl (by first | (simp only [lg_lenR, lg_lenI, lg_lenL, lg_len0]; decide) | decide) (fun x hx hnl hhf hl hw hret hnm hQ h0e => ⟨?_, rfl⟩)
  subst hw
  subst hl
  have hR : Rt x h u (none) (none) := ⟨h0e, hhf, hret, hQ⟩
  have hn : ∀ i, i < 1 → i < x.2.2.1.1.1 := fun i hi => by rw [hnl]; exact hi
  have e0 : lv_args 0 [vR x.2.2.2 x0] = [(0, vR x.2.2.2 x0)] := by simp only [lv_argsR, lv_argsI, lv_argsL, lv_args0]
  rw [e0]
  unfold mX11_init
  refine j_aload_n (q := 1) hx (dc kX11_init_0 0 rfl) rfl 0 rfl rfl ?_
  refine j_obj (q := 4) hx (dc kX11_init_0 1 rfl) lo_X11_1 hvx0 (by decide) (Nat.zero_le _) rfl ?_
  refine j_aload_n (q := 5) hx (dc kX11_init_0 2 rfl) rfl 0 rfl rfl ?_
  refine j_new (q := 8) hx (dc kX11_init_0 3 rfl) cf7 (by decide) nw_X11_7 rfl (fun v2 hvv2 h1 => ?_)
  refine j_dup (q := 9) hx (dc kX11_init_0 4 rfl) (vR_cat _ _) rfl ?_
  refine w_cIVW (q := 12) (As := []) (st := [vR x.2.2.2 v2, vR x.2.2.2 x0]) hx (dc kX11_init_0 5 rfl) (cI _ my_X7_init lm_X11_9 (by decide)) is_X7_init rfl rfl (fun u hu => sX7_init hvv2 _ _ _ _ hu) hvv2 (sum_le (sum_R (sum_R sum_nil)) (by decide)) rfl (fun h4 => ?_)
  refine w_sR (q := 15) hx (dc kX11_init_0 6 rfl) ff_X11_0 lk_X11_10 (Or.inr ⟨hnm, rfl, rfl, lt_X11_10⟩) rfl (fun h5 => ?_)
  refine j_aload_n (q := 16) hx (dc kX11_init_0 7 rfl) rfl 0 rfl rfl ?_
  refine j_new (q := 19) hx (dc kX11_init_0 8 rfl) cf8 (by decide) nw_X11_16 rfl (fun v7 hvv7 h6 => ?_)
  refine j_dup (q := 20) hx (dc kX11_init_0 9 rfl) (vR_cat _ _) rfl ?_
  refine w_cIVW (q := 23) (As := []) (st := [vR x.2.2.2 v7, vR x.2.2.2 x0]) hx (dc kX11_init_0 10 rfl) (cI _ my_X8_init lm_X11_18 (by decide)) is_X8_init rfl rfl (fun u hu => sX8_init hvv7 _ _ _ _ hu) hvv7 (sum_le (sum_R (sum_R sum_nil)) (by decide)) rfl (fun h9 => ?_)
  refine w_sR (q := 26) hx (dc kX11_init_0 11 rfl) ff_X11_1 lk_X11_19 (Or.inr ⟨hnm, rfl, rfl, lt_X11_19⟩) rfl (fun h10 => ?_)
  refine j_aload_n (q := 27) hx (dc kX11_init_0 12 rfl) rfl 0 rfl rfl ?_
  refine j_new (q := 30) hx (dc kX11_init_0 13 rfl) cf4 (by decide) nw_X11_23 rfl (fun v12 hvv12 h11 => ?_)
  refine j_dup (q := 31) hx (dc kX11_init_0 14 rfl) (vR_cat _ _) rfl ?_
  refine w_cIVW (q := 34) (As := []) (st := [vR x.2.2.2 v12, vR x.2.2.2 x0]) hx (dc kX11_init_0 15 rfl) (cI _ my_X4_init lm_X11_25 (by decide)) is_X4_init rfl rfl (fun u hu => sX4_init hvv12 _ _ _ _ hu) hvv12 (sum_le (sum_R (sum_R sum_nil)) (by decide)) rfl (fun h14 => ?_)
  refine w_sR (q := 37) hx (dc kX11_init_0 16 rfl) ff_X11_2 lk_X11_26 (Or.inr ⟨hnm, rfl, rfl, lt_X11_26⟩) rfl (fun h15 => ?_)
  refine j_aload_n (q := 38) hx (dc kX11_init_0 17 rfl) rfl 0 rfl rfl ?_
  refine j_new (q := 41) hx (dc kX11_init_0 18 rfl) cf1 (by decide) nw_X11_30 rfl (fun v17 hvv17 h16 => ?_)
  refine j_dup (q := 42) hx (dc kX11_init_0 19 rfl) (vR_cat _ _) rfl ?_
  refine w_cIVW (q := 45) (As := []) (st := [vR x.2.2.2 v17, vR x.2.2.2 x0]) hx (dc kX11_init_0 20 rfl) (cI _ my_X1_init lm_X11_32 (by decide)) is_X1_init rfl rfl (fun u hu => sX1_init hvv17 _ _ _ _ hu) hvv17 (sum_le (sum_R (sum_R sum_nil)) (by decide)) rfl (fun h19 => ?_)
  refine w_sR (q := 48) hx (dc kX11_init_0 21 rfl) ff_X11_3 lk_X11_33 (Or.inl rfl) rfl (fun h20 => ?_)
  refine j_aload_n (q := 49) hx (dc kX11_init_0 22 rfl) rfl 0 rfl rfl ?_
  refine j_new (q := 52) hx (dc kX11_init_0 23 rfl) cf1 (by decide) nw_X11_30 rfl (fun v22 hvv22 h21 => ?_)
  refine j_dup (q := 53) hx (dc kX11_init_0 24 rfl) (vR_cat _ _) rfl ?_
  refine w_cIVW (q := 56) (As := []) (st := [vR x.2.2.2 v22, vR x.2.2.2 x0]) hx (dc kX11_init_0 25 rfl) (cI _ my_X1_init lm_X11_32 (by decide)) is_X1_init rfl rfl (fun u hu => sX1_init hvv22 _ _ _ _ hu) hvv22 (sum_le (sum_R (sum_R sum_nil)) (by decide)) rfl (fun h24 => ?_)
  refine w_sR (q := 59) hx (dc kX11_init_0 26 rfl) ff_X11_4 lk_X11_37 (Or.inl rfl) rfl (fun h25 => ?_)
  refine j_aload_n (q := 60) hx (dc kX11_init_0 27 rfl) rfl 0 rfl rfl ?_
  refine j_new (q := 63) hx (dc kX11_init_0 28 rfl) cf5 (by decide) nw_X11_40 rfl (fun v27 hvv27 h26 => ?_)
  refine j_dup (q := 64) hx (dc kX11_init_0 29 rfl) (vR_cat _ _) rfl ?_
  refine w_cIVW (q := 67) (As := []) (st := [vR x.2.2.2 v27, vR x.2.2.2 x0]) hx (dc kX11_init_0 30 rfl) (cI _ my_X5_init lm_X11_42 (by decide)) is_X5_init rfl rfl (fun u hu => sX5_init hvv27 _ _ _ _ hu) hvv27 (sum_le (sum_R (sum_R sum_nil)) (by decide)) rfl (fun h29 => ?_)
  refine w_sR (q := 70) hx (dc kX11_init_0 31 rfl) ff_X11_5 lk_X11_43 (Or.inl rfl) rfl (fun h30 => ?_)
  refine j_aload_n (q := 71) hx (dc kX11_init_0 32 rfl) rfl 0 rfl rfl ?_
  refine j_new (q := 74) hx (dc kX11_init_0 33 rfl) cf5 (by decide) nw_X11_40 rfl (fun v32 hvv32 h31 => ?_)
  refine j_dup (q := 75) hx (dc kX11_init_0 34 rfl) (vR_cat _ _) rfl ?_
  refine w_cIVW (q := 78) (As := []) (st := [vR x.2.2.2 v32, vR x.2.2.2 x0]) hx (dc kX11_init_0 35 rfl) (cI _ my_X5_init lm_X11_42 (by decide)) is_X5_init rfl rfl (fun u hu => sX5_init hvv32 _ _ _ _ hu) hvv32 (sum_le (sum_R (sum_R sum_nil)) (by decide)) rfl (fun h34 => ?_)
  refine w_sR (q := 81) hx (dc kX11_init_0 36 rfl) ff_X11_6 lk_X11_47 (Or.inl rfl) rfl (fun h35 => ?_)
  refine j_aload_n (q := 82) hx (dc kX11_init_0 37 rfl) rfl 0 rfl rfl ?_
  refine j_new (q := 85) hx (dc kX11_init_0 38 rfl) cf2 (by decide) nw_X11_50 rfl (fun v37 hvv37 h36 => ?_)
  refine j_dup (q := 86) hx (dc kX11_init_0 39 rfl) (vR_cat _ _) rfl ?_
  refine j_aload_n (q := 87) hx (dc kX11_init_0 40 rfl) rfl 0 rfl rfl ?_
  refine w_gR (q := 90) hx (dc kX11_init_0 41 rfl) ff_X11_1 lk_X11_19 rfl (fun v38 => ?_)
  refine j_aload_n (q := 91) hx (dc kX11_init_0 42 rfl) rfl 0 rfl rfl ?_
  refine w_gR (q := 94) hx (dc kX11_init_0 43 rfl) ff_X11_2 lk_X11_26 rfl (fun v39 => ?_)
  refine j_aload_n (q := 95) hx (dc kX11_init_0 44 rfl) rfl 0 rfl rfl ?_
  refine w_gR (q := 98) hx (dc kX11_init_0 45 rfl) ff_X11_4 lk_X11_37 rfl (fun v40 => ?_)
  refine j_aload_n (q := 99) hx (dc kX11_init_0 46 rfl) rfl 0 rfl rfl ?_
  refine w_gR (q := 102) hx (dc kX11_init_0 47 rfl) ff_X11_6 lk_X11_47 rfl (fun v41 => ?_)
  refine w_cIVW (q := 105) (As := [vR x.2.2.2 v38, vR x.2.2.2 v39, vR x.2.2.2 v40, vR x.2.2.2 v41]) (st := [vR x.2.2.2 v37, vR x.2.2.2 x0]) hx (dc kX11_init_0 48 rfl) (cI _ my_X2_init lm_X11_52 (by decide)) is_X2_init rfl rfl (fun u hu => sX2_init hvv37 _ _ _ _ _ _ _ _ hu) hvv37 (sum_le (sum_R (sum_R sum_nil)) (by decide)) rfl (fun h43 => ?_)
  refine w_sR (q := 108) hx (dc kX11_init_0 49 rfl) ff_X11_7 lk_X11_55 (Or.inr ⟨hnm, rfl, rfl, lt_X11_55⟩) rfl (fun h44 => ?_)
  refine j_aload_n (q := 109) hx (dc kX11_init_0 50 rfl) rfl 0 rfl rfl ?_
  refine j_new (q := 112) hx (dc kX11_init_0 51 rfl) cf0 (by decide) nw_X11_59 rfl (fun v46 hvv46 h45 => ?_)
  refine j_dup (q := 113) hx (dc kX11_init_0 52 rfl) (vR_cat _ _) rfl ?_
  refine w_cIVW (q := 116) (As := []) (st := [vR x.2.2.2 v46, vR x.2.2.2 x0]) hx (dc kX11_init_0 53 rfl) (cI _ my_X0_init lm_X11_61 (by decide)) is_X0_init rfl rfl (fun u hu => sX0_init hvv46 _ _ _ _ hu) hvv46 (sum_le (sum_R (sum_R sum_nil)) (by decide)) rfl (fun h48 => ?_)
  refine w_sR (q := 119) hx (dc kX11_init_0 54 rfl) ff_X11_8 lk_X11_62 (Or.inr ⟨hnm, rfl, rfl, lt_X11_62⟩) rfl (fun h49 => ?_)
  refine j_aload_n (q := 120) hx (dc kX11_init_0 55 rfl) rfl 0 rfl rfl ?_
  refine j_new (q := 123) hx (dc kX11_init_0 56 rfl) cf10 (by decide) nw_X11_66 rfl (fun v51 hvv51 h50 => ?_)
  refine j_dup (q := 124) hx (dc kX11_init_0 57 rfl) (vR_cat _ _) rfl ?_
  refine w_cIVW (q := 127) (As := []) (st := [vR x.2.2.2 v51, vR x.2.2.2 x0]) hx (dc kX11_init_0 58 rfl) (cI _ my_X10_init lm_X11_68 (by decide)) is_X10_init rfl rfl (fun u hu => sX10_init hvv51 _ _ _ _ hu) hvv51 (sum_le (sum_R (sum_R sum_nil)) (by decide)) rfl (fun h53 => ?_)
  refine w_sR (q := 130) hx (dc kX11_init_0 59 rfl) ff_X11_9 lk_X11_69 (Or.inr ⟨hnm, rfl, rfl, lt_X11_69⟩) rfl (fun h54 => ?_)
  refine j_aload_n (q := 131) hx (dc kX11_init_0 60 rfl) rfl 0 rfl rfl ?_
  refine j_new (q := 134) hx (dc kX11_init_0 61 rfl) cf10 (by decide) nw_X11_66 rfl (fun v56 hvv56 h55 => ?_)
  refine j_dup (q := 135) hx (dc kX11_init_0 62 rfl) (vR_cat _ _) rfl ?_
  refine w_cIVW (q := 138) (As := []) (st := [vR x.2.2.2 v56, vR x.2.2.2 x0]) hx (dc kX11_init_0 63 rfl) (cI _ my_X10_init lm_X11_68 (by decide)) is_X10_init rfl rfl (fun u hu => sX10_init hvv56 _ _ _ _ hu) hvv56 (sum_le (sum_R (sum_R sum_nil)) (by decide)) rfl (fun h58 => ?_)
  refine w_sR (q := 141) hx (dc kX11_init_1 0 rfl) ff_X11_10 lk_X11_73 (Or.inr ⟨hnm, rfl, rfl, lt_X11_73⟩) rfl (fun h59 => ?_)
  refine j_aload_n (q := 142) hx (dc kX11_init_1 1 rfl) rfl 0 rfl rfl ?_
  refine j_new (q := 145) hx (dc kX11_init_1 2 rfl) cf10 (by decide) nw_X11_66 rfl (fun v61 hvv61 h60 => ?_)
  refine j_dup (q := 146) hx (dc kX11_init_1 3 rfl) (vR_cat _ _) rfl ?_
  refine w_cIVW (q := 149) (As := []) (st := [vR x.2.2.2 v61, vR x.2.2.2 x0]) hx (dc kX11_init_1 4 rfl) (cI _ my_X10_init lm_X11_68 (by decide)) is_X10_init rfl rfl (fun u hu => sX10_init hvv61 _ _ _ _ hu) hvv61 (sum_le (sum_R (sum_R sum_nil)) (by decide)) rfl (fun h63 => ?_)
  refine w_sR (q := 152) hx (dc kX11_init_1 5 rfl) ff_X11_11 lk_X11_76 (Or.inr ⟨hnm, rfl, rfl, lt_X11_76⟩) rfl (fun h64 => ?_)
  refine j_aload_n (q := 153) hx (dc kX11_init_1 6 rfl) rfl 0 rfl rfl ?_
  refine j_new (q := 156) hx (dc kX11_init_1 7 rfl) cf9 (by decide) nw_X11_79 rfl (fun v66 hvv66 h65 => ?_)
  refine j_dup (q := 157) hx (dc kX11_init_1 8 rfl) (vR_cat _ _) rfl ?_
  refine w_cIVW (q := 160) (As := []) (st := [vR x.2.2.2 v66, vR x.2.2.2 x0]) hx (dc kX11_init_1 9 rfl) (cI _ my_X9_init lm_X11_81 (by decide)) is_X9_init rfl rfl (fun u hu => sX9_init hvv66 _ _ _ _ hu) hvv66 (sum_le (sum_R (sum_R sum_nil)) (by decide)) rfl (fun h68 => ?_)
  refine w_sR (q := 163) hx (dc kX11_init_1 10 rfl) ff_X11_12 lk_X11_82 (Or.inr ⟨hnm, rfl, rfl, lt_X11_82⟩) rfl (fun h69 => ?_)
  refine j_aload_n (q := 164) hx (dc kX11_init_1 11 rfl) rfl 0 rfl rfl ?_
  refine j_new (q := 167) hx (dc kX11_init_1 12 rfl) cf3 (by decide) nw_X11_86 rfl (fun v71 hvv71 h70 => ?_)
  refine j_dup (q := 168) hx (dc kX11_init_1 13 rfl) (vR_cat _ _) rfl ?_
  refine w_cIVR (q := 171) (As := []) (st := [vR x.2.2.2 v71, vR x.2.2.2 x0]) hx (dc kX11_init_1 14 rfl) (cI _ my_X3_init lm_X11_88 (by decide)) is_X3_init rfl rfl (fun u hu => sX3_init hvv71 _ _ _ _ hu) hvv71 (sum_le (sum_R (sum_R sum_nil)) (by decide)) rfl (fun _ => ?_)
  refine w_sR (q := 174) hx (dc kX11_init_1 15 rfl) ff_X11_13 lk_X11_89 (Or.inr ⟨hnm, rfl, rfl, lt_X11_89⟩) rfl (fun h74 => ?_)
  refine j_aload_n (q := 175) hx (dc kX11_init_1 16 rfl) rfl 0 rfl rfl ?_
  refine j_new (q := 178) hx (dc kX11_init_1 17 rfl) cf6 (by decide) nw_X11_93 rfl (fun v76 hvv76 h75 => ?_)
  refine j_dup (q := 179) hx (dc kX11_init_1 18 rfl) (vR_cat _ _) rfl ?_
  refine w_cIVW (q := 182) (As := []) (st := [vR x.2.2.2 v76, vR x.2.2.2 x0]) hx (dc kX11_init_1 19 rfl) (cI _ my_X6_init lm_X11_95 (by decide)) is_X6_init rfl rfl (fun u hu => sX6_init hvv76 _ _ _ _ hu) hvv76 (sum_le (sum_R (sum_R sum_nil)) (by decide)) rfl (fun h78 => ?_)
  refine w_sR (q := 185) hx (dc kX11_init_1 20 rfl) ff_X11_14 lk_X11_96 (Or.inr ⟨hnm, rfl, rfl, lt_X11_96⟩) rfl (fun h79 => ?_)
  refine j_aload_n (q := 186) hx (dc kX11_init_1 21 rfl) rfl 0 rfl rfl ?_
  refine j_bipush (q := 188) (v := (8 : Int32)) hx (dc kX11_init_1 22 rfl) (by decide) rfl ?_
  refine j_newarray50 (q := 190) hx (dc kX11_init_1 23 rfl) ac_I (by decide) (by decide) (by decide) rfl (fun v81 hvv81 h80 => ?_)
  refine w_sR (q := 193) hx (dc kX11_init_1 24 rfl) ff_X11_15 lk_X11_100 (Or.inr ⟨hnm, rfl, rfl, lt_X11_100⟩) rfl (fun h82 => ?_)
  refine j_aload_n (q := 194) hx (dc kX11_init_1 25 rfl) rfl 0 rfl rfl ?_
  refine w_gR (q := 197) hx (dc kX11_init_1 26 rfl) ff_X11_3 lk_X11_33 rfl (fun v83 => ?_)
  refine w_cVVW (q := 200) (As := []) (st := []) hx (dc kX11_init_1 27 rfl) cf1 (by decide) rfl (cI _ my_X1_clear lm_X11_104 (by decide)) vs_X1_clear rfl (fun u hu => sX1_clear _ _ _ _ _ hu) (fun e => ite_ne (by unfold mX1_clear at e; exact e)) (Nat.zero_le _) rfl (fun h85 => ?_)
  refine j_aload_n (q := 201) hx (dc kX11_init_1 28 rfl) rfl 0 rfl rfl ?_
  refine w_gR (q := 204) hx (dc kX11_init_1 29 rfl) ff_X11_3 lk_X11_33 rfl (fun v86 => ?_)
  refine j_aload_n (q := 205) hx (dc kX11_init_1 30 rfl) rfl 0 rfl rfl ?_
  refine w_gR (q := 208) hx (dc kX11_init_1 31 rfl) ff_X11_2 lk_X11_26 rfl (fun v87 => ?_)
  refine w_cVVW (q := 211) (As := [vR x.2.2.2 v87]) (st := []) hx (dc kX11_init_1 32 rfl) cf1 (by decide) rfl (cI _ my_X1_finish lm_X11_107 (by decide)) vs_X1_finish rfl (fun u hu => sX1_finish _ _ _ _ _ _ hu) (fun e => ite_ne (by unfold mX1_finish at e; exact e)) (Nat.zero_le _) rfl (fun h89 => ?_)
  exact r_vW hx hR (dc kX11_init_1 33 rfl)

set_option maxHeartbeats 4000000 in
set_option maxRecDepth 100000 in
theorem sX11_sign (l : Launch) (w : Wd) (x0 : Nat) (x1 : Int32) (h : Hp) (u : (Int32 × Hp)) (hK : mX11_sign x0 x1 h = some u) : M1 l w mi_X11_sign 3 [vR w x0, .int x1] h u.2 (some (.int u.1)) := by
  refine M1.of (own := RX11) (T := fun _ r => r = u) hK (by decide +kernel) rfl (by first | (simp only [lg_lenR, lg_lenI, lg_lenL, lg_len0]; decide) | decide) (fun x hx hnl hhf hl hw hret hnm hQ h0e => ⟨?_, rfl⟩)
  subst hw
  subst hl
  have hR : Rt x h u.2 (some (.int u.1)) ((some .int)) := ⟨h0e, hhf, hret, hQ⟩
  have hn : ∀ i, i < 2 → i < x.2.2.1.1.1 := fun i hi => by rw [hnl]; exact hi
  have e0 : lv_args 0 [vR x.2.2.2 x0, .int x1] = [(0, vR x.2.2.2 x0), (1, .int x1)] := by simp only [lv_argsR, lv_argsI, lv_argsL, lv_args0]
  rw [e0]
  unfold mX11_sign
  refine J.ckd fun hck => ?_
  refine j_aload_n (q := 1) hx (dc kX11_sign_0 0 rfl) rfl 0 rfl rfl ?_
  refine w_gR (q := 4) hx (dc kX11_sign_0 1 rfl) ff_X11_0 lk_X11_10 rfl (fun v1 => ?_)
  refine j_iload_n (q := 5) hx (dc kX11_sign_0 2 rfl) rfl 1 rfl rfl ?_
  refine w_cVIW (q := 8) (As := [.int x1]) (st := []) hx (dc kX11_sign_0 3 rfl) cf7 (by decide) rfl (cI _ my_X7_take lm_X11_111 (by decide)) vs_X7_take rfl (fun u hu => sX7_take _ _ _ _ _ _ hu) (fun e => ite_ne (by unfold mX7_take at e; exact e)) (Nat.zero_le _) rfl (fun v2 h3 => ?_)
  refine j_if_eq (q := 11) (tgt := 21) hx (dc kX11_sign_0 4 rfl) (by decide) Iff.rfl rfl ?_ ?_
  · refine j_iconst (q := 22) (v := (-1 : Int32)) hx (dc kX11_sign_0 9 rfl) (by decide) rfl ?_
    exact r_iW hx hR (dc kX11_sign_0 10 rfl)
  · refine j_aload_n (q := 12) hx (dc kX11_sign_0 5 rfl) rfl 0 rfl rfl ?_
    refine w_gR (q := 15) hx (dc kX11_sign_0 6 rfl) ff_X11_0 lk_X11_10 rfl (fun v4 => ?_)
    refine w_gI (q := 18) hx (dc kX11_sign_0 7 rfl) ff_X7_1 lk_X11_115 rfl (fun v5 => ?_)
    refine j_goto (q := 22) hx (dc kX11_sign_0 8 rfl) (by decide) ?_
    exact r_iW hx hR (dc kX11_sign_0 10 rfl)

set_option maxHeartbeats 4000000 in
set_option maxRecDepth 100000 in
theorem sX11_end (l : Launch) (w : Wd) (x0 : Nat) (x1 : Int32) (h : Hp) (u : (Int32 × Hp)) (hK : mX11_end x0 x1 h = some u) : M1 l w mi_X11_end 2 [vR w x0, .int x1] h u.2 (some (.int u.1)) := by
  refine M1.of (own := RX11) (T := fun _ r => r = u) hK (by decide +kernel) rfl (by first | (simp only [lg_lenR, lg_lenI, lg_lenL, lg_len0]; decide) | decide) (fun x hx hnl hhf hl hw hret hnm hQ h0e => ⟨?_, rfl⟩)
  subst hw
  subst hl
  have hR : Rt x h u.2 (some (.int u.1)) ((some .boolean)) := ⟨h0e, hhf, hret, hQ⟩
  have hn : ∀ i, i < 2 → i < x.2.2.1.1.1 := fun i hi => by rw [hnl]; exact hi
  have e0 : lv_args 0 [vR x.2.2.2 x0, .int x1] = [(0, vR x.2.2.2 x0), (1, .int x1)] := by simp only [lv_argsR, lv_argsI, lv_argsL, lv_args0]
  rw [e0]
  unfold mX11_end
  refine J.ckd fun hck => ?_
  refine j_aload_n (q := 1) hx (dc kX11_end_0 0 rfl) rfl 0 rfl rfl ?_
  refine w_gR (q := 4) hx (dc kX11_end_0 1 rfl) ff_X11_0 lk_X11_10 rfl (fun v1 => ?_)
  refine j_iload_n (q := 5) hx (dc kX11_end_0 2 rfl) rfl 1 rfl rfl ?_
  refine w_cVIW (q := 8) (As := [.int x1]) (st := []) hx (dc kX11_end_0 3 rfl) cf7 (by decide) rfl (cI _ my_X7_cut lm_X11_119 (by decide)) vs_X7_cut rfl (fun u hu => sX7_cut _ _ _ _ _ _ hu) (fun e => ite_ne (by unfold mX7_cut at e; exact e)) (Nat.zero_le _) rfl (fun v2 h3 => ?_)
  exact r_zW hx hR (dc kX11_end_0 4 rfl)

set_option maxHeartbeats 4000000 in
set_option maxRecDepth 100000 in
theorem sX11_suit (l : Launch) (w : Wd) (x0 : Nat) (h : Hp) (u : (Int32 × Hp)) (hK : mX11_suit x0 h = some u) : M1 l w mi_X11_suit 48 [vR w x0] h u.2 (some (.int u.1)) := by
  refine M1.of (own := RX11) (T := fun _ r => r = u) hK (by decide +kernel) rfl (by first | (simp only [lg_lenR, lg_lenI, lg_lenL, lg_len0]; decide) | decide) (fun x hx hnl hhf hl hw hret hnm hQ h0e => ⟨?_, rfl⟩)
  subst hw
  subst hl
  have hR : Rt x h u.2 (some (.int u.1)) ((some .int)) := ⟨h0e, hhf, hret, hQ⟩
  have hn : ∀ i, i < 3 → i < x.2.2.1.1.1 := fun i hi => by rw [hnl]; exact hi
  have e0 : lv_args 0 [vR x.2.2.2 x0] = [(0, vR x.2.2.2 x0)] := by simp only [lv_argsR, lv_argsI, lv_argsL, lv_args0]
  rw [e0]
  unfold mX11_suit
  refine J.ckd fun hck => ?_
  refine j_aload_n (q := 1) hx (dc kX11_suit_0 0 rfl) rfl 0 rfl rfl ?_
  refine w_gR (q := 4) hx (dc kX11_suit_0 1 rfl) ff_X11_1 lk_X11_19 rfl (fun v1 => ?_)
  refine j_aload_n (q := 5) hx (dc kX11_suit_0 2 rfl) rfl 0 rfl rfl ?_
  refine w_gR (q := 8) hx (dc kX11_suit_0 3 rfl) ff_X11_0 lk_X11_10 rfl (fun v2 => ?_)
  refine w_cVVW (q := 11) (As := [vR x.2.2.2 v2]) (st := []) hx (dc kX11_suit_0 4 rfl) cf8 (by decide) rfl (cI _ my_X8_split lm_X11_122 (by decide)) vs_X8_split rfl (fun u hu => sX8_split _ _ _ _ _ _ hu) (fun e => ite_ne (by unfold mX8_split at e; exact e)) (Nat.zero_le _) rfl (fun h4 => ?_)
  refine j_aload_n (q := 12) hx (dc kX11_suit_0 5 rfl) rfl 0 rfl rfl ?_
  refine w_gR (q := 15) hx (dc kX11_suit_0 6 rfl) ff_X11_0 lk_X11_10 rfl (fun v5 => ?_)
  refine j_iconst (q := 16) (v := (0 : Int32)) hx (dc kX11_suit_0 7 rfl) (by decide) rfl ?_
  refine w_sI (q := 19) hx (dc kX11_suit_0 8 rfl) ff_X7_1 rfl lk_X11_115 (Or.inl rfl) rfl (fun h6 => ?_)
  refine j_aload_n (q := 20) hx (dc kX11_suit_0 9 rfl) rfl 0 rfl rfl ?_
  refine w_gR (q := 23) hx (dc kX11_suit_0 10 rfl) ff_X11_7 lk_X11_55 rfl (fun v7 => ?_)
  refine j_aload_n (q := 24) hx (dc kX11_suit_0 11 rfl) rfl 0 rfl rfl ?_
  refine w_gR (q := 27) hx (dc kX11_suit_0 12 rfl) ff_X11_4 lk_X11_37 rfl (fun v8 => ?_)
  refine j_aload_n (q := 28) hx (dc kX11_suit_0 13 rfl) rfl 0 rfl rfl ?_
  refine w_gR (q := 31) hx (dc kX11_suit_0 14 rfl) ff_X11_6 lk_X11_47 rfl (fun v9 => ?_)
  refine w_cVIW (q := 34) (As := [vR x.2.2.2 v8, vR x.2.2.2 v9]) (st := []) hx (dc kX11_suit_0 15 rfl) cf2 (by decide) rfl (cI _ my_X2_readSuit lm_X11_126 (by decide)) vs_X2_readSuit rfl (fun u hu => sX2_readSuit _ _ _ _ _ _ _ hu) (fun e => ite_ne (by unfold mX2_readSuit at e; exact e)) (Nat.zero_le _) rfl (fun v10 h11 => ?_)
  refine j_if_neS (q := 37) (tgt := 39) hx (dc kX11_suit_0 16 rfl) (by decide) rfl ?_ ?_
  · refine j_aload_n (q := 40) hx (dc kX11_suit_0 19 rfl) rfl 0 rfl rfl ?_
    refine w_gR (q := 43) hx (dc kX11_suit_0 20 rfl) ff_X11_4 lk_X11_37 rfl (fun v12 => ?_)
    refine j_aload_n (q := 44) hx (dc kX11_suit_0 21 rfl) rfl 0 rfl rfl ?_
    refine w_gR (q := 47) hx (dc kX11_suit_0 22 rfl) ff_X11_2 lk_X11_26 rfl (fun v13 => ?_)
    refine w_cVVW (q := 50) (As := [vR x.2.2.2 v13]) (st := []) hx (dc kX11_suit_0 23 rfl) cf1 (by decide) rfl (cI _ my_X1_finish lm_X11_107 (by decide)) vs_X1_finish rfl (fun u hu => sX1_finish _ _ _ _ _ _ hu) (fun e => ite_ne (by unfold mX1_finish at e; exact e)) (Nat.zero_le _) rfl (fun h15 => ?_)
    refine j_aload_n (q := 51) hx (dc kX11_suit_0 24 rfl) rfl 0 rfl rfl ?_
    refine w_gR (q := 54) hx (dc kX11_suit_0 25 rfl) ff_X11_4 lk_X11_37 rfl (fun v16 => ?_)
    refine j_astore_n (q := 55) (i := 1) (l2 := [(0, vR x.2.2.2 x0)]) hx (dc kX11_suit_0 26 rfl) rfl (hn 1 (by decide)) [0] rfl ⟨⟨show (0 : Nat) ≠ 1 by decide, Or.inr (vR_cat _ _)⟩, trivial⟩ rfl ?_
    refine j_aload_n (q := 56) hx (dc kX11_suit_0 27 rfl) rfl 1 rfl rfl ?_
    refine j_aload_n (q := 57) hx (dc kX11_suit_0 28 rfl) rfl 1 rfl rfl ?_
    refine w_gR (q := 60) hx (dc kX11_suit_0 29 rfl) ff_X11_3 lk_X11_33 rfl (fun v17 => ?_)
    refine w_sR (q := 63) hx (dc kX11_suit_0 30 rfl) ff_X11_4 lk_X11_37 (Or.inl rfl) rfl (fun h18 => ?_)
    refine j_aload_n (q := 64) hx (dc kX11_suit_0 31 rfl) rfl 1 rfl rfl ?_
    refine j_aload_n (q := 65) hx (dc kX11_suit_0 32 rfl) rfl 0 rfl rfl ?_
    refine w_sR (q := 68) hx (dc kX11_suit_0 33 rfl) ff_X11_3 lk_X11_33 (Or.inl rfl) rfl (fun h19 => ?_)
    refine j_aload_n (q := 69) hx (dc kX11_suit_0 34 rfl) rfl 1 rfl rfl ?_
    refine w_gR (q := 72) hx (dc kX11_suit_0 35 rfl) ff_X11_6 lk_X11_47 rfl (fun v20 => ?_)
    refine j_astore_n (q := 73) (i := 2) (l2 := [(0, vR x.2.2.2 x0)]) hx (dc kX11_suit_0 36 rfl) rfl (hn 2 (by decide)) [1] rfl ⟨⟨show (0 : Nat) ≠ 2 by decide, Or.inl (show (0 : Nat) + 1 ≠ 2 by decide)⟩, trivial⟩ rfl ?_
    refine j_aload_n (q := 74) hx (dc kX11_suit_0 37 rfl) rfl 1 rfl rfl ?_
    refine j_aload_n (q := 75) hx (dc kX11_suit_0 38 rfl) rfl 1 rfl rfl ?_
    refine w_gR (q := 78) hx (dc kX11_suit_0 39 rfl) ff_X11_5 lk_X11_43 rfl (fun v21 => ?_)
    refine w_sR (q := 81) hx (dc kX11_suit_0 40 rfl) ff_X11_6 lk_X11_47 (Or.inl rfl) rfl (fun h22 => ?_)
    refine j_aload_n (q := 82) hx (dc kX11_suit_0 41 rfl) rfl 1 rfl rfl ?_
    refine j_aload_n (q := 83) hx (dc kX11_suit_0 42 rfl) rfl 0 rfl rfl ?_
    refine w_sR (q := 86) hx (dc kX11_suit_0 43 rfl) ff_X11_5 lk_X11_43 (Or.inl rfl) rfl (fun h23 => ?_)
    refine j_aload_n (q := 87) hx (dc kX11_suit_0 44 rfl) rfl 1 rfl rfl ?_
    refine w_gR (q := 90) hx (dc kX11_suit_0 45 rfl) ff_X11_8 lk_X11_62 rfl (fun v24 => ?_)
    refine w_cVVW (q := 93) (As := []) (st := []) hx (dc kX11_suit_0 46 rfl) cf0 (by decide) rfl (cI _ my_X0_forget lm_X11_130 (by decide)) vs_X0_forget rfl (fun u hu => sX0_forget _ _ _ _ _ hu) (fun e => ite_ne (by unfold mX0_forget at e; exact e)) (Nat.zero_le _) rfl (fun h26 => ?_)
    refine j_aload_n (q := 94) hx (dc kX11_suit_0 47 rfl) rfl 1 rfl rfl ?_
    refine j_lconst (q := 95) (v := (0 : Int64)) hx (dc kX11_suit_0 48 rfl) (by decide) rfl ?_
    refine w_sL (q := 98) hx (dc kX11_suit_0 49 rfl) ff_X11_17 rfl lk_X11_133 (Or.inl rfl) rfl (fun h27 => ?_)
    refine j_aload_n (q := 99) hx (dc kX11_suit_0 50 rfl) rfl 1 rfl rfl ?_
    refine w_gR (q := 102) hx (dc kX11_suit_0 51 rfl) ff_X11_3 lk_X11_33 rfl (fun v28 => ?_)
    refine w_gI (q := 105) hx (dc kX11_suit_0 52 rfl) ff_X1_0 lk_X11_137 rfl (fun v29 => ?_)
    exact r_iW hx hR (dc kX11_suit_0 53 rfl)
  · refine j_iconst (q := 38) (v := (-1 : Int32)) hx (dc kX11_suit_0 17 rfl) (by decide) rfl ?_
    exact r_iW hx hR (dc kX11_suit_0 18 rfl)

set_option maxHeartbeats 4000000 in
set_option maxRecDepth 100000 in
theorem sX11_fault (l : Launch) (w : Wd) (x0 : Nat) (x1 : Int32) (h : Hp) (u : Int32) (hK : mX11_fault x0 x1 h = some u) : M1 l w mi_X11_fault 1 [vR w x0, .int x1] h h (some (.int u)) := by
  refine M1.of (own := RX11) (T := fun _ r => r = u) hK (by decide +kernel) rfl (by first | (simp only [lg_lenR, lg_lenI, lg_lenL, lg_len0]; decide) | decide) (fun x hx hnl hhf hl hw hret hnm hQ h0e => ⟨?_, rfl⟩)
  subst hw
  subst hl
  have hR : Rt x h h (some (.int u)) ((some .int)) := ⟨h0e, hhf, hret, hQ⟩
  have hn : ∀ i, i < 2 → i < x.2.2.1.1.1 := fun i hi => by rw [hnl]; exact hi
  have e0 : lv_args 0 [vR x.2.2.2 x0, .int x1] = [(0, vR x.2.2.2 x0), (1, .int x1)] := by simp only [lv_argsR, lv_argsI, lv_argsL, lv_args0]
  rw [e0]
  unfold mX11_fault
  refine J.ckd fun hck => ?_
  refine j_iload_n (q := 1) hx (dc kX11_fault_0 0 rfl) rfl 1 rfl rfl ?_
  refine j_lsw hx (dc kX11_fault_0 1 rfl) (by decide) ⟨rfl, ⟨28, by decide, ?_⟩, ⟨rfl, ⟨36, by decide, ?_⟩, ⟨58, by decide, ?_⟩⟩⟩
  · refine j_aload_n (q := 29) hx (dc kX11_fault_0 2 rfl) rfl 0 rfl rfl ?_
    refine w_gR (q := 32) hx (dc kX11_fault_0 3 rfl) ff_X11_7 lk_X11_55 rfl (fun v1 => ?_)
    refine w_gI (q := 35) hx (dc kX11_fault_0 4 rfl) ff_X2_7 lk_X11_140 rfl (fun v2 => ?_)
    exact r_iR hx hR (dc kX11_fault_0 5 rfl)
  · refine j_aload_n (q := 37) hx (dc kX11_fault_0 6 rfl) rfl 0 rfl rfl ?_
    refine w_gR (q := 40) hx (dc kX11_fault_0 7 rfl) ff_X11_7 lk_X11_55 rfl (fun v3 => ?_)
    refine w_gI (q := 43) hx (dc kX11_fault_0 8 rfl) ff_X2_7 lk_X11_140 rfl (fun v4 => ?_)
    refine j_if_neS (q := 46) (tgt := 50) hx (dc kX11_fault_0 9 rfl) (by decide) rfl ?_ ?_
    · refine j_aload_n (q := 51) hx (dc kX11_fault_0 12 rfl) rfl 0 rfl rfl ?_
      refine w_gR (q := 54) hx (dc kX11_fault_0 13 rfl) ff_X11_7 lk_X11_55 rfl (fun v5 => ?_)
      refine w_gI (q := 57) hx (dc kX11_fault_0 14 rfl) ff_X2_8 lk_X11_143 rfl (fun v6 => ?_)
      exact r_iR hx hR (dc kX11_fault_0 15 rfl)
    · refine j_iconst (q := 47) (v := (-1 : Int32)) hx (dc kX11_fault_0 10 rfl) (by decide) rfl ?_
      refine j_goto (q := 57) hx (dc kX11_fault_0 11 rfl) (by decide) ?_
      exact r_iR hx hR (dc kX11_fault_0 15 rfl)
  · refine j_iconst (q := 59) (v := (-1 : Int32)) hx (dc kX11_fault_0 16 rfl) (by decide) rfl ?_
    exact r_iR hx hR (dc kX11_fault_0 17 rfl)

