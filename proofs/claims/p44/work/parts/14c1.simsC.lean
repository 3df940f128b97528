set_option maxHeartbeats 4000000 in
set_option maxRecDepth 100000 in
theorem sX1_sound (l : Launch) (w : Wd) (x0 : Nat) (x1 : Int32) (x2 : Int32) (h : Hp) (u : Int32) (hK : mX1_sound x0 x1 x2 h = some u) : M1 l w mi_X1_sound 2 [vR w x0, .int x1, .int x2] h h (some (.int u)) := by
  refine M1.of (own := RX1) (T := fun _ r => r = u) hK (by decide +kernel) rfl (by first | (simp only [lg_lenR, lg_lenI, lg_lenL, lg_len0]; decide) | decide) (fun x hx hnl hhf hl hw hret hnm hQ h0e => ⟨?_, rfl⟩)
  subst hw
  subst hl
  have hR : Rt x h h (some (.int u)) ((some .boolean)) := ⟨h0e, hhf, hret, hQ⟩
  have hn : ∀ i, i < 5 → i < x.2.2.1.1.1 := fun i hi => by rw [hnl]; exact hi
  have e0 : lv_args 0 [vR x.2.2.2 x0, .int x1, .int x2] = [(0, vR x.2.2.2 x0), (1, .int x1), (2, .int x2)] := by simp only [lv_argsR, lv_argsI, lv_argsL, lv_args0]
  rw [e0]
  have hb5 : ∀ (x0 : Nat) (x1 : Int32) (x2 : Int32) (x3 : Int32) (x4 : Int32), J x 5 [(0, vR x.2.2.2 x0), (1, .int x1), (2, .int x2), (3, .int x3), (4, .int x4)] [] h (mX1_sound_l5 x0 x1 x2 x3 x4 h) (fun r => r = u) := by
    intro x0 x1 x2 x3 x4
    have hB : ∀ (x3 : Int32) (x4 : Int32), J x 5 [(0, vR x.2.2.2 x0), (1, .int x1), (2, .int x2), (3, .int x3), (4, .int x4)] [] h (mX1_sound_l5f x0 x1 x2 h x3 x4) (TLo (S := (Int32 × Int32)) x 5 (fun s => [(0, vR x.2.2.2 x0), (1, .int x1), (2, .int x2), (3, .int s.1), (4, .int s.2)]) [] (fun s => h) (fun r => r = u)) := by
      intro x3 x4
      have hb36 : ∀ (x0 : Nat) (x1 : Int32) (x2 : Int32) (x4 : Int32) (t0 : Int32) (t1 : Int32), J x 36 [(0, vR x.2.2.2 x0), (1, .int x1), (2, .int x2), (4, .int x4)] [.int t1, .int t0] h (mX1_sound_b36 x0 x1 x2 x4 t0 t1 h) (TLo (S := (Int32 × Int32)) x 5 (fun s => [(0, vR x.2.2.2 x0), (1, .int x1), (2, .int x2), (3, .int s.1), (4, .int s.2)]) [] (fun s => h) (fun r => r = u)) := by
        intro x0 x1 x2 x4 t0 t1
        unfold mX1_sound_b36
        refine j_ior (q := 37) hx (dc kX1_sound_0 20 rfl) rfl ?_
        refine j_istore_n (q := 38) (i := 3) (l2 := [(0, vR x.2.2.2 x0), (1, .int x1), (2, .int x2), (4, .int x4)]) hx (dc kX1_sound_0 21 rfl) rfl (hn 3 (by decide)) [0, 1, 2, 3] rfl ⟨⟨show (0 : Nat) ≠ 3 by decide, Or.inl (show (0 : Nat) + 1 ≠ 3 by decide)⟩, ⟨⟨show (1 : Nat) ≠ 3 by decide, Or.inl (show (1 : Nat) + 1 ≠ 3 by decide)⟩, ⟨⟨show (2 : Nat) ≠ 3 by decide, Or.inr rfl⟩, ⟨⟨show (4 : Nat) ≠ 3 by decide, Or.inl (show (4 : Nat) + 1 ≠ 3 by decide)⟩, trivial⟩⟩⟩⟩ rfl ?_
        refine j_iinc (q := 41) (l2 := [(3, .int (t0 ||| t1)), (0, vR x.2.2.2 x0), (1, .int x1), (2, .int x2)]) hx (dc kX1_sound_0 22 rfl) 4 rfl (v := (1 : Int32)) (by decide) (hn 4 (by decide)) [0, 1, 2, 3] rfl ⟨⟨show (3 : Nat) ≠ 4 by decide, Or.inr rfl⟩, ⟨⟨show (0 : Nat) ≠ 4 by decide, Or.inl (show (0 : Nat) + 1 ≠ 4 by decide)⟩, ⟨⟨show (1 : Nat) ≠ 4 by decide, Or.inl (show (1 : Nat) + 1 ≠ 4 by decide)⟩, ⟨⟨show (2 : Nat) ≠ 4 by decide, Or.inl (show (2 : Nat) + 1 ≠ 4 by decide)⟩, trivial⟩⟩⟩⟩ rfl ?_
        refine j_goto (q := 5) hx (dc kX1_sound_0 23 rfl) (by decide) ?_
        exact j_back [2, 3, 4, 1, 0] ((t0 ||| t1), (x4 + (1 : Int32))) rfl rfl
      unfold mX1_sound_l5f
      refine j_iload (q := 7) hx (dc kX1_sound_0 4 rfl) 4 rfl rfl ?_
      refine j_aload_n (q := 8) hx (dc kX1_sound_0 5 rfl) rfl 0 rfl rfl ?_
      refine w_gI (q := 11) hx (dc kX1_sound_0 6 rfl) ff_X1_4 lk_X1_69 rfl (fun v1 => ?_)
      refine j_icmp_geS (q := 14) (tgt := 44) hx (dc kX1_sound_0 7 rfl) (by decide) rfl ?_ ?_
      · refine j_exit ?_
        refine j_iload_n (q := 45) hx (dc kX1_sound_0 24 rfl) rfl 2 rfl rfl ?_
        refine j_iload_n (q := 46) hx (dc kX1_sound_0 25 rfl) rfl 3 rfl rfl ?_
        refine j_iconst (q := 47) (v := (2 : Int32)) hx (dc kX1_sound_0 26 rfl) (by decide) rfl ?_
        refine j_ior (q := 48) hx (dc kX1_sound_0 27 rfl) rfl ?_
        refine j_iand (q := 49) hx (dc kX1_sound_0 28 rfl) rfl ?_
        refine j_iload_n (q := 50) hx (dc kX1_sound_0 29 rfl) rfl 3 rfl rfl ?_
        refine j_icmp_neS (q := 53) (tgt := 57) hx (dc kX1_sound_0 30 rfl) (by decide) rfl ?_ ?_
        · refine j_iconst (q := 58) (v := (0 : Int32)) hx (dc kX1_sound_0 33 rfl) (by decide) rfl ?_
          exact r_cR hx (Or.inl rfl) hR (dc kX1_sound_0 34 rfl)
        · refine j_iconst (q := 54) (v := (1 : Int32)) hx (dc kX1_sound_0 31 rfl) (by decide) rfl ?_
          refine j_goto (q := 58) hx (dc kX1_sound_0 32 rfl) (by decide) ?_
          exact r_cR hx (Or.inr rfl) hR (dc kX1_sound_0 34 rfl)
      · refine j_iload_n (q := 15) hx (dc kX1_sound_0 8 rfl) rfl 3 rfl rfl ?_
        refine j_aload_n (q := 16) hx (dc kX1_sound_0 9 rfl) rfl 0 rfl rfl ?_
        refine w_gR (q := 19) hx (dc kX1_sound_0 10 rfl) ff_X1_9 lk_X1_21 rfl (fun v2 => ?_)
        refine j_iload (q := 21) hx (dc kX1_sound_0 11 rfl) 4 rfl rfl ?_
        refine w_cSIR (q := 24) (As := [vR x.2.2.2 v2, .int x4]) (st := [.int x3]) hx (dc kX1_sound_0 12 rfl) (cI _ my_X11_at lm_X1_89 (by decide)) st_X11_at rfl (fun u hu => sX11_at _ _ _ _ _ _ hu) (sum_le (sum_I sum_nil) (by decide)) rfl (fun v3 => ?_)
        refine j_iload_n (q := 25) hx (dc kX1_sound_0 13 rfl) rfl 1 rfl rfl ?_
        refine j_icmp_neS (q := 28) (tgt := 35) hx (dc kX1_sound_0 14 rfl) (by decide) rfl ?_ ?_
        · refine j_iconst (q := 36) (v := (0 : Int32)) hx (dc kX1_sound_0 19 rfl) (by decide) rfl ?_
          exact j_sub [0, 1, 2, 4] rfl (hb36 x0 x1 x2 x4 x3 (0 : Int32))
        · refine j_iconst (q := 29) (v := (4 : Int32)) hx (dc kX1_sound_0 15 rfl) (by decide) rfl ?_
          refine j_iload (q := 31) hx (dc kX1_sound_0 16 rfl) 4 rfl rfl ?_
          refine j_ishl (q := 32) hx (dc kX1_sound_0 17 rfl) rfl ?_
          refine j_goto (q := 36) hx (dc kX1_sound_0 18 rfl) (by decide) ?_
          exact j_sub [0, 1, 2, 4] rfl (hb36 x0 x1 x2 x4 x3 ((4 : Int32) <<< (x4 &&& 31)))
    exact j_loop (S := (Int32 × Int32)) (lvf := fun s => [(0, vR x.2.2.2 x0), (1, .int x1), (2, .int x2), (3, .int s.1), (4, .int s.2)]) (hpf := fun s => h) (f := (fun s : (Int32 × Int32) => mX1_sound_l5f x0 x1 x2 h s.1 s.2)) (fun s => hB s.1 s.2) (x3, x4)
  unfold mX1_sound
  refine J.ckd fun hck => ?_
  refine j_iconst (q := 1) (v := (1 : Int32)) hx (dc kX1_sound_0 0 rfl) (by decide) rfl ?_
  refine j_istore_n (q := 2) (i := 3) (l2 := [(0, vR x.2.2.2 x0), (1, .int x1), (2, .int x2)]) hx (dc kX1_sound_0 1 rfl) rfl (hn 3 (by decide)) [0, 1, 2] rfl ⟨⟨show (0 : Nat) ≠ 3 by decide, Or.inl (show (0 : Nat) + 1 ≠ 3 by decide)⟩, ⟨⟨show (1 : Nat) ≠ 3 by decide, Or.inl (show (1 : Nat) + 1 ≠ 3 by decide)⟩, ⟨⟨show (2 : Nat) ≠ 3 by decide, Or.inr rfl⟩, trivial⟩⟩⟩ rfl ?_
  refine j_iconst (q := 3) (v := (0 : Int32)) hx (dc kX1_sound_0 2 rfl) (by decide) rfl ?_
  refine j_istore (q := 5) (i := 4) (l2 := [(3, .int (1 : Int32)), (0, vR x.2.2.2 x0), (1, .int x1), (2, .int x2)]) hx (dc kX1_sound_0 3 rfl) (hn 4 (by decide)) [0, 1, 2, 3] rfl ⟨⟨show (3 : Nat) ≠ 4 by decide, Or.inr rfl⟩, ⟨⟨show (0 : Nat) ≠ 4 by decide, Or.inl (show (0 : Nat) + 1 ≠ 4 by decide)⟩, ⟨⟨show (1 : Nat) ≠ 4 by decide, Or.inl (show (1 : Nat) + 1 ≠ 4 by decide)⟩, ⟨⟨show (2 : Nat) ≠ 4 by decide, Or.inl (show (2 : Nat) + 1 ≠ 4 by decide)⟩, trivial⟩⟩⟩⟩ rfl ?_
  exact j_sub [2, 3, 4, 1, 0] rfl (hb5 x0 x1 x2 (1 : Int32) (0 : Int32))

set_option maxHeartbeats 4000000 in
set_option maxRecDepth 100000 in
theorem sX1_weigh (l : Launch) (w : Wd) (x0 : Nat) (x1 : Nat) (h : Hp) (u : Int64) (hK : mX1_weigh x0 x1 h = some u) : M1 l w mi_X1_weigh 2 [vR w x0, vR w x1] h h (some (.long u)) := by
  refine M1.of (own := RX1) (T := fun _ r => r = u) hK (by decide +kernel) rfl (by first | (simp only [lg_lenR, lg_lenI, lg_lenL, lg_len0]; decide) | decide) (fun x hx hnl hhf hl hw hret hnm hQ h0e => ⟨?_, rfl⟩)
  subst hw
  subst hl
  have hR : Rt x h h (some (.long u)) ((some .long)) := ⟨h0e, hhf, hret, hQ⟩
  have hn : ∀ i, i < 5 → i < x.2.2.1.1.1 := fun i hi => by rw [hnl]; exact hi
  have e0 : lv_args 0 [vR x.2.2.2 x0, vR x.2.2.2 x1] = [(0, vR x.2.2.2 x0), (1, vR x.2.2.2 x1)] := by simp only [lv_argsR, lv_argsI, lv_argsL, lv_args0]
  rw [e0]
  have hb5 : ∀ (x0 : Nat) (x1 : Nat) (x2 : Int64) (x4 : Int32), J x 5 [(0, vR x.2.2.2 x0), (1, vR x.2.2.2 x1), (2, .long x2), (4, .int x4)] [] h (mX1_weigh_l5 x0 x1 x2 x4 h) (fun r => r = u) := by
    intro x0 x1 x2 x4
    have hB : ∀ (x2 : Int64) (x4 : Int32), J x 5 [(0, vR x.2.2.2 x0), (1, vR x.2.2.2 x1), (2, .long x2), (4, .int x4)] [] h (mX1_weigh_l5f x0 x1 h x2 x4) (TLo (S := (Int64 × Int32)) x 5 (fun s => [(0, vR x.2.2.2 x0), (1, vR x.2.2.2 x1), (2, .long s.1), (4, .int s.2)]) [] (fun s => h) (fun r => r = u)) := by
      intro x2 x4
      have hb35 : ∀ (x0 : Nat) (x1 : Nat) (x2 : Int64) (x4 : Int32), J x 35 [(0, vR x.2.2.2 x0), (1, vR x.2.2.2 x1), (2, .long x2), (4, .int x4)] [] h (mX1_weigh_b35 x0 x1 x2 x4 h) (TLo (S := (Int64 × Int32)) x 5 (fun s => [(0, vR x.2.2.2 x0), (1, vR x.2.2.2 x1), (2, .long s.1), (4, .int s.2)]) [] (fun s => h) (fun r => r = u)) := by
        intro x0 x1 x2 x4
        unfold mX1_weigh_b35
        refine j_iinc (q := 38) (l2 := [(0, vR x.2.2.2 x0), (1, vR x.2.2.2 x1), (2, .long x2)]) hx (dc kX1_weigh_0 19 rfl) 3 rfl (v := (1 : Int32)) (by decide) (hn 4 (by decide)) [0, 1, 2] rfl ⟨⟨show (0 : Nat) ≠ 4 by decide, Or.inl (show (0 : Nat) + 1 ≠ 4 by decide)⟩, ⟨⟨show (1 : Nat) ≠ 4 by decide, Or.inl (show (1 : Nat) + 1 ≠ 4 by decide)⟩, ⟨⟨show (2 : Nat) ≠ 4 by decide, Or.inl (show (2 : Nat) + 1 ≠ 4 by decide)⟩, trivial⟩⟩⟩ rfl ?_
        refine j_goto (q := 5) hx (dc kX1_weigh_0 20 rfl) (by decide) ?_
        exact j_back [1, 2, 3, 0] (x2, (x4 + (1 : Int32))) rfl rfl
      unfold mX1_weigh_l5f
      refine j_iload (q := 7) hx (dc kX1_weigh_0 4 rfl) 3 rfl rfl ?_
      refine j_sipush (q := 10) (v := (256 : Int32)) hx (dc kX1_weigh_0 5 rfl) (by decide) rfl ?_
      refine j_icmp_geS (q := 13) (tgt := 41) hx (dc kX1_weigh_0 6 rfl) (by decide) rfl ?_ ?_
      · refine j_exit ?_
        refine j_lload_n (q := 42) hx (dc kX1_weigh_0 21 rfl) rfl 2 rfl rfl ?_
        exact r_lR hx hR (dc kX1_weigh_0 22 rfl)
      · refine j_aload_n (q := 14) hx (dc kX1_weigh_0 7 rfl) rfl 1 rfl rfl ?_
        refine j_iload (q := 16) hx (dc kX1_weigh_0 8 rfl) 3 rfl rfl ?_
        refine w_cVIR (q := 19) (As := [.int x4]) (st := []) hx (dc kX1_weigh_0 9 rfl) cf10 (by decide) rfl (cI _ my_X10_holds lm_X1_145 (by decide)) vs_X10_holds rfl (fun u hu => sX10_holds _ _ _ _ _ _ hu) (fun e => ite_ne (by unfold mX10_holds at e; exact e)) (Nat.zero_le _) rfl (fun v1 => ?_)
        refine j_if_eq (q := 22) (tgt := 35) hx (dc kX1_weigh_0 10 rfl) (by decide) Iff.rfl rfl ?_ ?_
        · exact hb35 x0 x1 x2 x4
        · refine j_lload_n (q := 23) hx (dc kX1_weigh_0 11 rfl) rfl 2 rfl rfl ?_
          refine j_aload_n (q := 24) hx (dc kX1_weigh_0 12 rfl) rfl 0 rfl rfl ?_
          refine w_gR (q := 27) hx (dc kX1_weigh_0 13 rfl) ff_X1_16 lk_X1_39 rfl (fun v3 => ?_)
          refine j_iload (q := 29) hx (dc kX1_weigh_0 14 rfl) 3 rfl rfl ?_
          refine w_cSIR (q := 32) (As := [vR x.2.2.2 v3, .int x4]) (st := [.long x2]) hx (dc kX1_weigh_0 15 rfl) (cI _ my_X11_at lm_X1_89 (by decide)) st_X11_at rfl (fun u hu => sX11_at _ _ _ _ _ _ hu) (sum_le (sum_J sum_nil) (by decide)) rfl (fun v4 => ?_)
          refine j_i2l (q := 33) hx (dc kX1_weigh_0 16 rfl) rfl ?_
          refine j_ladd (q := 34) hx (dc kX1_weigh_0 17 rfl) rfl ?_
          refine j_lstore_n (q := 35) (i := 2) (l2 := [(0, vR x.2.2.2 x0), (1, vR x.2.2.2 x1), (4, .int x4)]) hx (dc kX1_weigh_0 18 rfl) rfl (hn 3 (by decide)) [0, 1, 3] rfl ⟨⟨show (0 : Nat) ≠ 2 by decide, Or.inl (show (0 : Nat) + 1 ≠ 2 by decide)⟩, ⟨⟨show (1 : Nat) ≠ 2 by decide, Or.inr (vR_cat _ _)⟩, ⟨⟨show (4 : Nat) ≠ 2 by decide, Or.inl (show (4 : Nat) + 1 ≠ 2 by decide)⟩, trivial⟩⟩⟩ (by simp) rfl ?_
          exact j_sub [1, 2, 0, 3] rfl (hb35 x0 x1 (x2 + v4.toInt64) x4)
    exact j_loop (S := (Int64 × Int32)) (lvf := fun s => [(0, vR x.2.2.2 x0), (1, vR x.2.2.2 x1), (2, .long s.1), (4, .int s.2)]) (hpf := fun s => h) (f := (fun s : (Int64 × Int32) => mX1_weigh_l5f x0 x1 h s.1 s.2)) (fun s => hB s.1 s.2) (x2, x4)
  unfold mX1_weigh
  refine J.ckd fun hck => ?_
  refine j_lconst (q := 1) (v := (0 : Int64)) hx (dc kX1_weigh_0 0 rfl) (by decide) rfl ?_
  refine j_lstore_n (q := 2) (i := 2) (l2 := [(0, vR x.2.2.2 x0), (1, vR x.2.2.2 x1)]) hx (dc kX1_weigh_0 1 rfl) rfl (hn 3 (by decide)) [0, 1] rfl ⟨⟨show (0 : Nat) ≠ 2 by decide, Or.inl (show (0 : Nat) + 1 ≠ 2 by decide)⟩, ⟨⟨show (1 : Nat) ≠ 2 by decide, Or.inr (vR_cat _ _)⟩, trivial⟩⟩ (by simp) rfl ?_
  refine j_iconst (q := 3) (v := (0 : Int32)) hx (dc kX1_weigh_0 2 rfl) (by decide) rfl ?_
  refine j_istore (q := 5) (i := 4) (l2 := [(2, .long (0 : Int64)), (0, vR x.2.2.2 x0), (1, vR x.2.2.2 x1)]) hx (dc kX1_weigh_0 3 rfl) (hn 4 (by decide)) [0, 1, 2] rfl ⟨⟨show (2 : Nat) ≠ 4 by decide, Or.inl (show (2 : Nat) + 1 ≠ 4 by decide)⟩, ⟨⟨show (0 : Nat) ≠ 4 by decide, Or.inl (show (0 : Nat) + 1 ≠ 4 by decide)⟩, ⟨⟨show (1 : Nat) ≠ 4 by decide, Or.inl (show (1 : Nat) + 1 ≠ 4 by decide)⟩, trivial⟩⟩⟩ rfl ?_
  exact j_sub [2, 3, 1, 0] rfl (hb5 x0 x1 (0 : Int64) (0 : Int32))

set_option maxHeartbeats 4000000 in
set_option maxRecDepth 100000 in
theorem sX2_init {x0 : Nat} (hvx0 : x0 ≠ 0) (l : Launch) (w : Wd) (x1 : Nat) (x2 : Nat) (x3 : Nat) (x4 : Nat) (h : Hp) (u : Hp) (hK : mX2_init x0 x1 x2 x3 x4 h = some u) : M1 l w mi_X2_init 2 [vR w x0, vR w x1, vR w x2, vR w x3, vR w x4] h u (none) := by
  refine M1.of (own := RX2) (T := fun _ r => r = u) hK (by decide +kernel) rfl (by first | (simp only [lg_lenR, lg_lenI, lg_lenL, lg_len0]; decide) | decide) (fun x hx hnl hhf hl hw hret hnm hQ h0e => ⟨?_, rfl⟩)
  subst hw
  subst hl
  have hR : Rt x h u (none) (none) := ⟨h0e, hhf, hret, hQ⟩
  have hn : ∀ i, i < 5 → i < x.2.2.1.1.1 := fun i hi => by rw [hnl]; exact hi
  have e0 : lv_args 0 [vR x.2.2.2 x0, vR x.2.2.2 x1, vR x.2.2.2 x2, vR x.2.2.2 x3, vR x.2.2.2 x4] = [(0, vR x.2.2.2 x0), (1, vR x.2.2.2 x1), (2, vR x.2.2.2 x2), (3, vR x.2.2.2 x3), (4, vR x.2.2.2 x4)] := by simp only [lv_argsR, lv_argsI, lv_argsL, lv_args0]
  rw [e0]
  unfold mX2_init
  refine j_aload_n (q := 1) hx (dc kX2_init_0 0 rfl) rfl 0 rfl rfl ?_
  refine j_obj (q := 4) hx (dc kX2_init_0 1 rfl) lo_X2_3 hvx0 (by decide) (Nat.zero_le _) rfl ?_
  refine j_aload_n (q := 5) hx (dc kX2_init_0 2 rfl) rfl 0 rfl rfl ?_
  refine j_new (q := 8) hx (dc kX2_init_0 3 rfl) cf10 (by decide) nw_X2_9 rfl (fun v2 hvv2 h1 => ?_)
  refine j_dup (q := 9) hx (dc kX2_init_0 4 rfl) (vR_cat _ _) rfl ?_
  refine w_cIVW (q := 12) (As := []) (st := [vR x.2.2.2 v2, vR x.2.2.2 x0]) hx (dc kX2_init_0 5 rfl) (cI _ my_X10_init lm_X2_11 (by decide)) is_X10_init rfl rfl (fun u hu => sX10_init hvv2 _ _ _ _ hu) hvv2 (sum_le (sum_R (sum_R sum_nil)) (by decide)) rfl (fun h4 => ?_)
  refine w_sR (q := 15) hx (dc kX2_init_0 6 rfl) ff_X2_2 lk_X2_12 (Or.inr ⟨hnm, rfl, rfl, lt_X2_12⟩) rfl (fun h5 => ?_)
  refine j_aload_n (q := 16) hx (dc kX2_init_0 7 rfl) rfl 0 rfl rfl ?_
  refine j_aload_n (q := 17) hx (dc kX2_init_0 8 rfl) rfl 1 rfl rfl ?_
  refine w_sR (q := 20) hx (dc kX2_init_0 9 rfl) ff_X2_0 lk_X2_18 (Or.inr ⟨hnm, rfl, rfl, lt_X2_18⟩) rfl (fun h6 => ?_)
  refine j_aload_n (q := 21) hx (dc kX2_init_0 10 rfl) rfl 0 rfl rfl ?_
  refine j_aload_n (q := 22) hx (dc kX2_init_0 11 rfl) rfl 2 rfl rfl ?_
  refine w_sR (q := 25) hx (dc kX2_init_0 12 rfl) ff_X2_1 lk_X2_22 (Or.inr ⟨hnm, rfl, rfl, lt_X2_22⟩) rfl (fun h7 => ?_)
  refine j_aload_n (q := 26) hx (dc kX2_init_0 13 rfl) rfl 0 rfl rfl ?_
  refine j_aload_n (q := 27) hx (dc kX2_init_0 14 rfl) rfl 3 rfl rfl ?_
  refine w_sR (q := 30) hx (dc kX2_init_0 15 rfl) ff_X2_3 lk_X2_26 (Or.inl rfl) rfl (fun h8 => ?_)
  refine j_aload_n (q := 31) hx (dc kX2_init_0 16 rfl) rfl 0 rfl rfl ?_
  refine j_aload (q := 33) hx (dc kX2_init_0 17 rfl) 4 rfl rfl ?_
  refine w_sR (q := 36) hx (dc kX2_init_0 18 rfl) ff_X2_4 lk_X2_30 (Or.inl rfl) rfl (fun h9 => ?_)
  exact r_vW hx hR (dc kX2_init_0 19 rfl)

set_option maxHeartbeats 4000000 in
set_option maxRecDepth 100000 in
theorem sX2_begin (l : Launch) (w : Wd) (x0 : Nat) (x1 : Nat) (h : Hp) (u : Hp) (hK : mX2_begin x0 x1 h = some u) : M1 l w mi_X2_begin 1 [vR w x0, vR w x1] h u (none) := by
  refine M1.of (own := RX2) (T := fun _ r => r = u) hK (by decide +kernel) rfl (by first | (simp only [lg_lenR, lg_lenI, lg_lenL, lg_len0]; decide) | decide) (fun x hx hnl hhf hl hw hret hnm hQ h0e => ⟨?_, rfl⟩)
  subst hw
  subst hl
  have hR : Rt x h u (none) (none) := ⟨h0e, hhf, hret, hQ⟩
  have hn : ∀ i, i < 2 → i < x.2.2.1.1.1 := fun i hi => by rw [hnl]; exact hi
  have e0 : lv_args 0 [vR x.2.2.2 x0, vR x.2.2.2 x1] = [(0, vR x.2.2.2 x0), (1, vR x.2.2.2 x1)] := by simp only [lv_argsR, lv_argsI, lv_argsL, lv_args0]
  rw [e0]
  unfold mX2_begin
  refine J.ckd fun hck => ?_
  refine j_aload_n (q := 1) hx (dc kX2_begin_0 0 rfl) rfl 0 rfl rfl ?_
  refine j_aload_n (q := 2) hx (dc kX2_begin_0 1 rfl) rfl 1 rfl rfl ?_
  refine w_sR (q := 5) hx (dc kX2_begin_0 2 rfl) ff_X2_3 lk_X2_26 (Or.inl rfl) rfl (fun h1 => ?_)
  refine j_aload_n (q := 6) hx (dc kX2_begin_0 3 rfl) rfl 0 rfl rfl ?_
  refine j_iconst (q := 7) (v := (0 : Int32)) hx (dc kX2_begin_0 4 rfl) (by decide) rfl ?_
  refine w_sI (q := 10) hx (dc kX2_begin_0 5 rfl) ff_X2_5 rfl lk_X2_65 (Or.inl rfl) rfl (fun h2 => ?_)
  refine j_aload_n (q := 11) hx (dc kX2_begin_0 6 rfl) rfl 0 rfl rfl ?_
  refine j_iconst (q := 12) (v := (0 : Int32)) hx (dc kX2_begin_0 7 rfl) (by decide) rfl ?_
  refine w_sI (q := 15) hx (dc kX2_begin_0 8 rfl) ff_X2_7 rfl lk_X2_68 (Or.inl rfl) rfl (fun h3 => ?_)
  exact r_vW hx hR (dc kX2_begin_0 9 rfl)

set_option maxHeartbeats 4000000 in
set_option maxRecDepth 100000 in
theorem sX5_clear (l : Launch) (w : Wd) (x0 : Nat) (h : Hp) (u : Hp) (hK : mX5_clear x0 h = some u) : M1 l w mi_X5_clear 1 [vR w x0] h u (none) := by
  refine M1.of (own := RX5) (T := fun _ r => r = u) hK (by decide +kernel) rfl (by first | (simp only [lg_lenR, lg_lenI, lg_lenL, lg_len0]; decide) | decide) (fun x hx hnl hhf hl hw hret hnm hQ h0e => ⟨?_, rfl⟩)
  subst hw
  subst hl
  have hR : Rt x h u (none) (none) := ⟨h0e, hhf, hret, hQ⟩
  have hn : ∀ i, i < 1 → i < x.2.2.1.1.1 := fun i hi => by rw [hnl]; exact hi
  have e0 : lv_args 0 [vR x.2.2.2 x0] = [(0, vR x.2.2.2 x0)] := by simp only [lv_argsR, lv_argsI, lv_argsL, lv_args0]
  rw [e0]
  unfold mX5_clear
  refine J.ckd fun hck => ?_
  refine j_aload_n (q := 1) hx (dc kX5_clear_0 0 rfl) rfl 0 rfl rfl ?_
  refine j_iconst (q := 2) (v := (0 : Int32)) hx (dc kX5_clear_0 1 rfl) (by decide) rfl ?_
  refine w_sI (q := 5) hx (dc kX5_clear_0 2 rfl) ff_X5_0 rfl lk_X5_30 (Or.inl rfl) rfl (fun h1 => ?_)
  refine j_aload_n (q := 6) hx (dc kX5_clear_0 3 rfl) rfl 0 rfl rfl ?_
  refine j_iconst (q := 7) (v := (0 : Int32)) hx (dc kX5_clear_0 4 rfl) (by decide) rfl ?_
  refine w_sZ (q := 10) hx (dc kX5_clear_0 5 rfl) ff_X5_1 rfl lk_X5_34 (Or.inl rfl) rfl (fun h2 => ?_)
  refine j_aload_n (q := 11) hx (dc kX5_clear_0 6 rfl) rfl 0 rfl rfl ?_
  refine j_iconst (q := 12) (v := (0 : Int32)) hx (dc kX5_clear_0 7 rfl) (by decide) rfl ?_
  refine w_sI (q := 15) hx (dc kX5_clear_0 8 rfl) ff_X5_2 rfl lk_X5_38 (Or.inl rfl) rfl (fun h3 => ?_)
  refine j_aload_n (q := 16) hx (dc kX5_clear_0 9 rfl) rfl 0 rfl rfl ?_
  refine j_iconst (q := 17) (v := (0 : Int32)) hx (dc kX5_clear_0 10 rfl) (by decide) rfl ?_
  refine w_sI (q := 20) hx (dc kX5_clear_0 11 rfl) ff_X5_3 rfl lk_X5_41 (Or.inl rfl) rfl (fun h4 => ?_)
  refine j_aload_n (q := 21) hx (dc kX5_clear_0 12 rfl) rfl 0 rfl rfl ?_
  refine j_iconst (q := 22) (v := (0 : Int32)) hx (dc kX5_clear_0 13 rfl) (by decide) rfl ?_
  refine w_sI (q := 25) hx (dc kX5_clear_0 14 rfl) ff_X5_4 rfl lk_X5_44 (Or.inl rfl) rfl (fun h5 => ?_)
  refine j_aload_n (q := 26) hx (dc kX5_clear_0 15 rfl) rfl 0 rfl rfl ?_
  refine j_iconst (q := 27) (v := (0 : Int32)) hx (dc kX5_clear_0 16 rfl) (by decide) rfl ?_
  refine w_sI (q := 30) hx (dc kX5_clear_0 17 rfl) ff_X5_5 rfl lk_X5_47 (Or.inl rfl) rfl (fun h6 => ?_)
  refine j_aload_n (q := 31) hx (dc kX5_clear_0 18 rfl) rfl 0 rfl rfl ?_
  refine j_iconst (q := 32) (v := (0 : Int32)) hx (dc kX5_clear_0 19 rfl) (by decide) rfl ?_
  refine w_sI (q := 35) hx (dc kX5_clear_0 20 rfl) ff_X5_6 rfl lk_X5_50 (Or.inl rfl) rfl (fun h7 => ?_)
  refine j_aload_n (q := 36) hx (dc kX5_clear_0 21 rfl) rfl 0 rfl rfl ?_
  refine j_iconst (q := 37) (v := (0 : Int32)) hx (dc kX5_clear_0 22 rfl) (by decide) rfl ?_
  refine w_sI (q := 40) hx (dc kX5_clear_0 23 rfl) ff_X5_7 rfl lk_X5_53 (Or.inl rfl) rfl (fun h8 => ?_)
  refine j_aload_n (q := 41) hx (dc kX5_clear_0 24 rfl) rfl 0 rfl rfl ?_
  refine j_iconst (q := 42) (v := (0 : Int32)) hx (dc kX5_clear_0 25 rfl) (by decide) rfl ?_
  refine w_sI (q := 45) hx (dc kX5_clear_0 26 rfl) ff_X5_8 rfl lk_X5_56 (Or.inl rfl) rfl (fun h9 => ?_)
  exact r_vW hx hR (dc kX5_clear_0 27 rfl)

set_option maxHeartbeats 4000000 in
set_option maxRecDepth 100000 in
theorem sX2_nextKind (l : Launch) (w : Wd) (x0 : Nat) (h : Hp) (u : Int32) (hK : mX2_nextKind x0 h = some u) : M1 l w mi_X2_nextKind 1 [vR w x0] h h (some (.int u)) := by
  refine M1.of (own := RX2) (T := fun _ r => r = u) hK (by decide +kernel) rfl (by first | (simp only [lg_lenR, lg_lenI, lg_lenL, lg_len0]; decide) | decide) (fun x hx hnl hhf hl hw hret hnm hQ h0e => ⟨?_, rfl⟩)
  subst hw
  subst hl
  have hR : Rt x h h (some (.int u)) ((some .int)) := ⟨h0e, hhf, hret, hQ⟩
  have hn : ∀ i, i < 1 → i < x.2.2.1.1.1 := fun i hi => by rw [hnl]; exact hi
  have e0 : lv_args 0 [vR x.2.2.2 x0] = [(0, vR x.2.2.2 x0)] := by simp only [lv_argsR, lv_argsI, lv_argsL, lv_args0]
  rw [e0]
  unfold mX2_nextKind
  refine J.ckd fun hck => ?_
  refine j_aload_n (q := 1) hx (dc kX2_nextKind_0 0 rfl) rfl 0 rfl rfl ?_
  refine w_gI (q := 4) hx (dc kX2_nextKind_0 1 rfl) ff_X2_5 lk_X2_65 rfl (fun v1 => ?_)
  refine j_if_lt (q := 7) (tgt := 37) hx (dc kX2_nextKind_0 2 rfl) (by decide) Iff.rfl rfl ?_ ?_
  · refine j_iconst (q := 38) (v := (0 : Int32)) hx (dc kX2_nextKind_0 17 rfl) (by decide) rfl ?_
    exact r_iR hx hR (dc kX2_nextKind_0 18 rfl)
  · refine j_aload_n (q := 8) hx (dc kX2_nextKind_0 3 rfl) rfl 0 rfl rfl ?_
    refine w_gI (q := 11) hx (dc kX2_nextKind_0 4 rfl) ff_X2_5 lk_X2_65 rfl (fun v2 => ?_)
    refine j_aload_n (q := 12) hx (dc kX2_nextKind_0 5 rfl) rfl 0 rfl rfl ?_
    refine w_gR (q := 15) hx (dc kX2_nextKind_0 6 rfl) ff_X2_0 lk_X2_18 rfl (fun v3 => ?_)
    refine w_gR (q := 18) hx (dc kX2_nextKind_0 7 rfl) ff_X8_0 lk_X2_232 rfl (fun v4 => ?_)
    refine j_alen (q := 19) hx (dc kX2_nextKind_0 8 rfl) rfl (fun v5 => ?_)
    refine j_icmp_geS (q := 22) (tgt := 37) hx (dc kX2_nextKind_0 9 rfl) (by decide) rfl ?_ ?_
    · refine j_iconst (q := 38) (v := (0 : Int32)) hx (dc kX2_nextKind_0 17 rfl) (by decide) rfl ?_
      exact r_iR hx hR (dc kX2_nextKind_0 18 rfl)
    · refine j_aload_n (q := 23) hx (dc kX2_nextKind_0 10 rfl) rfl 0 rfl rfl ?_
      refine w_gR (q := 26) hx (dc kX2_nextKind_0 11 rfl) ff_X2_0 lk_X2_18 rfl (fun v6 => ?_)
      refine w_gR (q := 29) hx (dc kX2_nextKind_0 12 rfl) ff_X8_0 lk_X2_232 rfl (fun v7 => ?_)
      refine j_aload_n (q := 30) hx (dc kX2_nextKind_0 13 rfl) rfl 0 rfl rfl ?_
      refine w_gI (q := 33) hx (dc kX2_nextKind_0 14 rfl) ff_X2_5 lk_X2_65 rfl (fun v8 => ?_)
      refine j_ldI (q := 34) hx (dc kX2_nextKind_0 15 rfl) rfl (fun v9 => ?_)
      refine j_goto (q := 38) hx (dc kX2_nextKind_0 16 rfl) (by decide) ?_
      exact r_iR hx hR (dc kX2_nextKind_0 18 rfl)

set_option maxHeartbeats 4000000 in
set_option maxRecDepth 100000 in
theorem sX2_fail (l : Launch) (w : Wd) (x0 : Nat) (x1 : Int32) (h : Hp) (u : (Int32 × Hp)) (hK : mX2_fail x0 x1 h = some u) : M1 l w mi_X2_fail 1 [vR w x0, .int x1] h u.2 (some (.int u.1)) := by
  refine M1.of (own := RX2) (T := fun _ r => r = u) hK (by decide +kernel) rfl (by first | (simp only [lg_lenR, lg_lenI, lg_lenL, lg_len0]; decide) | decide) (fun x hx hnl hhf hl hw hret hnm hQ h0e => ⟨?_, rfl⟩)
  subst hw
  subst hl
  have hR : Rt x h u.2 (some (.int u.1)) ((some .boolean)) := ⟨h0e, hhf, hret, hQ⟩
  have hn : ∀ i, i < 2 → i < x.2.2.1.1.1 := fun i hi => by rw [hnl]; exact hi
  have e0 : lv_args 0 [vR x.2.2.2 x0, .int x1] = [(0, vR x.2.2.2 x0), (1, .int x1)] := by simp only [lv_argsR, lv_argsI, lv_argsL, lv_args0]
  rw [e0]
  unfold mX2_fail
  refine J.ckd fun hck => ?_
  refine j_aload_n (q := 1) hx (dc kX2_fail_0 0 rfl) rfl 0 rfl rfl ?_
  refine j_iload_n (q := 2) hx (dc kX2_fail_0 1 rfl) rfl 1 rfl rfl ?_
  refine w_sI (q := 5) hx (dc kX2_fail_0 2 rfl) ff_X2_7 rfl lk_X2_68 (Or.inl rfl) rfl (fun h1 => ?_)
  refine j_aload_n (q := 6) hx (dc kX2_fail_0 3 rfl) rfl 0 rfl rfl ?_
  refine w_gI (q := 9) hx (dc kX2_fail_0 4 rfl) ff_X2_5 lk_X2_65 rfl (fun v2 => ?_)
  refine j_if_lt (q := 12) (tgt := 43) hx (dc kX2_fail_0 5 rfl) (by decide) Iff.rfl rfl ?_ ?_
  · refine j_iconst (q := 44) (v := (0 : Int32)) hx (dc kX2_fail_0 21 rfl) (by decide) rfl ?_
    exact r_cW hx (Or.inl rfl) hR (dc kX2_fail_0 22 rfl)
  · refine j_aload_n (q := 13) hx (dc kX2_fail_0 6 rfl) rfl 0 rfl rfl ?_
    refine w_gI (q := 16) hx (dc kX2_fail_0 7 rfl) ff_X2_5 lk_X2_65 rfl (fun v3 => ?_)
    refine j_aload_n (q := 17) hx (dc kX2_fail_0 8 rfl) rfl 0 rfl rfl ?_
    refine w_gR (q := 20) hx (dc kX2_fail_0 9 rfl) ff_X2_0 lk_X2_18 rfl (fun v4 => ?_)
    refine w_gR (q := 23) hx (dc kX2_fail_0 10 rfl) ff_X8_1 lk_X2_240 rfl (fun v5 => ?_)
    refine j_alen (q := 24) hx (dc kX2_fail_0 11 rfl) rfl (fun v6 => ?_)
    refine j_icmp_geS (q := 27) (tgt := 43) hx (dc kX2_fail_0 12 rfl) (by decide) rfl ?_ ?_
    · refine j_iconst (q := 44) (v := (0 : Int32)) hx (dc kX2_fail_0 21 rfl) (by decide) rfl ?_
      exact r_cW hx (Or.inl rfl) hR (dc kX2_fail_0 22 rfl)
    · refine j_aload_n (q := 28) hx (dc kX2_fail_0 13 rfl) rfl 0 rfl rfl ?_
      refine j_aload_n (q := 29) hx (dc kX2_fail_0 14 rfl) rfl 0 rfl rfl ?_
      refine w_gR (q := 32) hx (dc kX2_fail_0 15 rfl) ff_X2_0 lk_X2_18 rfl (fun v7 => ?_)
      refine w_gR (q := 35) hx (dc kX2_fail_0 16 rfl) ff_X8_1 lk_X2_240 rfl (fun v8 => ?_)
      refine j_aload_n (q := 36) hx (dc kX2_fail_0 17 rfl) rfl 0 rfl rfl ?_
      refine w_gI (q := 39) hx (dc kX2_fail_0 18 rfl) ff_X2_5 lk_X2_65 rfl (fun v9 => ?_)
      refine j_ldI (q := 40) hx (dc kX2_fail_0 19 rfl) rfl (fun v10 => ?_)
      refine w_sI (q := 43) hx (dc kX2_fail_0 20 rfl) ff_X2_8 rfl lk_X2_243 (Or.inl rfl) rfl (fun h11 => ?_)
      refine j_iconst (q := 44) (v := (0 : Int32)) hx (dc kX2_fail_0 21 rfl) (by decide) rfl ?_
      exact r_cW hx (Or.inl rfl) hR (dc kX2_fail_0 22 rfl)

set_option maxHeartbeats 4000000 in
set_option maxRecDepth 100000 in
theorem sX2_nextValue (l : Launch) (w : Wd) (x0 : Nat) (h : Hp) (u : Int32) (hK : mX2_nextValue x0 h = some u) : M1 l w mi_X2_nextValue 1 [vR w x0] h h (some (.int u)) := by
  refine M1.of (own := RX2) (T := fun _ r => r = u) hK (by decide +kernel) rfl (by first | (simp only [lg_lenR, lg_lenI, lg_lenL, lg_len0]; decide) | decide) (fun x hx hnl hhf hl hw hret hnm hQ h0e => ⟨?_, rfl⟩)
  subst hw
  subst hl
  have hR : Rt x h h (some (.int u)) ((some .int)) := ⟨h0e, hhf, hret, hQ⟩
  have hn : ∀ i, i < 1 → i < x.2.2.1.1.1 := fun i hi => by rw [hnl]; exact hi
  have e0 : lv_args 0 [vR x.2.2.2 x0] = [(0, vR x.2.2.2 x0)] := by simp only [lv_argsR, lv_argsI, lv_argsL, lv_args0]
  rw [e0]
  unfold mX2_nextValue
  refine J.ckd fun hck => ?_
  refine j_aload_n (q := 1) hx (dc kX2_nextValue_0 0 rfl) rfl 0 rfl rfl ?_
  refine w_gI (q := 4) hx (dc kX2_nextValue_0 1 rfl) ff_X2_5 lk_X2_65 rfl (fun v1 => ?_)
  refine j_if_lt (q := 7) (tgt := 37) hx (dc kX2_nextValue_0 2 rfl) (by decide) Iff.rfl rfl ?_ ?_
  · refine j_iconst (q := 38) (v := (0 : Int32)) hx (dc kX2_nextValue_0 17 rfl) (by decide) rfl ?_
    exact r_iR hx hR (dc kX2_nextValue_0 18 rfl)
  · refine j_aload_n (q := 8) hx (dc kX2_nextValue_0 3 rfl) rfl 0 rfl rfl ?_
    refine w_gI (q := 11) hx (dc kX2_nextValue_0 4 rfl) ff_X2_5 lk_X2_65 rfl (fun v2 => ?_)
    refine j_aload_n (q := 12) hx (dc kX2_nextValue_0 5 rfl) rfl 0 rfl rfl ?_
    refine w_gR (q := 15) hx (dc kX2_nextValue_0 6 rfl) ff_X2_0 lk_X2_18 rfl (fun v3 => ?_)
    refine w_gR (q := 18) hx (dc kX2_nextValue_0 7 rfl) ff_X8_2 lk_X2_237 rfl (fun v4 => ?_)
    refine j_alen (q := 19) hx (dc kX2_nextValue_0 8 rfl) rfl (fun v5 => ?_)
    refine j_icmp_geS (q := 22) (tgt := 37) hx (dc kX2_nextValue_0 9 rfl) (by decide) rfl ?_ ?_
    · refine j_iconst (q := 38) (v := (0 : Int32)) hx (dc kX2_nextValue_0 17 rfl) (by decide) rfl ?_
      exact r_iR hx hR (dc kX2_nextValue_0 18 rfl)
    · refine j_aload_n (q := 23) hx (dc kX2_nextValue_0 10 rfl) rfl 0 rfl rfl ?_
      refine w_gR (q := 26) hx (dc kX2_nextValue_0 11 rfl) ff_X2_0 lk_X2_18 rfl (fun v6 => ?_)
      refine w_gR (q := 29) hx (dc kX2_nextValue_0 12 rfl) ff_X8_2 lk_X2_237 rfl (fun v7 => ?_)
      refine j_aload_n (q := 30) hx (dc kX2_nextValue_0 13 rfl) rfl 0 rfl rfl ?_
      refine w_gI (q := 33) hx (dc kX2_nextValue_0 14 rfl) ff_X2_5 lk_X2_65 rfl (fun v8 => ?_)
      refine j_ldI (q := 34) hx (dc kX2_nextValue_0 15 rfl) rfl (fun v9 => ?_)
      refine j_goto (q := 38) hx (dc kX2_nextValue_0 16 rfl) (by decide) ?_
      exact r_iR hx hR (dc kX2_nextValue_0 18 rfl)

set_option maxHeartbeats 4000000 in
set_option maxRecDepth 100000 in
theorem sX2_newName (l : Launch) (w : Wd) (x0 : Nat) (h : Hp) (u : (Int32 × Hp)) (hK : mX2_newName x0 h = some u) : M1 l w mi_X2_newName 2 [vR w x0] h u.2 (some (.int u.1)) := by
  refine M1.of (own := RX2) (T := fun _ r => r = u) hK (by decide +kernel) rfl (by first | (simp only [lg_lenR, lg_lenI, lg_lenL, lg_len0]; decide) | decide) (fun x hx hnl hhf hl hw hret hnm hQ h0e => ⟨?_, rfl⟩)
  subst hw
  subst hl
  have hR : Rt x h u.2 (some (.int u.1)) ((some .boolean)) := ⟨h0e, hhf, hret, hQ⟩
  have hn : ∀ i, i < 1 → i < x.2.2.1.1.1 := fun i hi => by rw [hnl]; exact hi
  have e0 : lv_args 0 [vR x.2.2.2 x0] = [(0, vR x.2.2.2 x0)] := by simp only [lv_argsR, lv_argsI, lv_argsL, lv_args0]
  rw [e0]
  have hb50 : ∀ (x0 : Nat) (h : Hp), J x 50 [(0, vR x.2.2.2 x0)] [] h (mX2_newName_b50 x0 h) (fun r => r = u) := by
    intro x0 h
    unfold mX2_newName_b50
    refine j_aload_n (q := 51) hx (dc kX2_newName_0 24 rfl) rfl 0 rfl rfl ?_
    refine j_iconst (q := 52) (v := (3 : Int32)) hx (dc kX2_newName_0 25 rfl) (by decide) rfl ?_
    refine w_cVIW (q := 55) (As := [.int (3 : Int32)]) (st := []) hx (dc kX2_newName_0 26 rfl) cf2 (by decide) rfl (cI _ my_X2_fail lm_X2_92 (by decide)) vs_X2_fail rfl (fun u hu => sX2_fail _ _ _ _ _ _ hu) (fun e => ite_ne (by unfold mX2_fail at e; exact e)) (Nat.zero_le _) rfl (fun v10 h11 => ?_)
    exact r_zW hx hR (dc kX2_newName_0 27 rfl)
  unfold mX2_newName
  refine J.ckd fun hck => ?_
  refine j_aload_n (q := 1) hx (dc kX2_newName_0 0 rfl) rfl 0 rfl rfl ?_
  refine w_cVIR (q := 4) (As := []) (st := []) hx (dc kX2_newName_0 1 rfl) cf2 (by decide) rfl (cI _ my_X2_nextKind lm_X2_46 (by decide)) vs_X2_nextKind rfl (fun u hu => sX2_nextKind _ _ _ _ _ hu) (fun e => ite_ne (by unfold mX2_nextKind at e; exact e)) (Nat.zero_le _) rfl (fun v1 => ?_)
  refine j_iconst (q := 5) (v := (2 : Int32)) hx (dc kX2_newName_0 2 rfl) (by decide) rfl ?_
  refine j_icmp_eq (q := 8) (tgt := 14) hx (dc kX2_newName_0 3 rfl) (by decide) Iff.rfl rfl ?_ ?_
  · refine j_aload_n (q := 15) hx (dc kX2_newName_0 8 rfl) rfl 0 rfl rfl ?_
    refine j_aload_n (q := 16) hx (dc kX2_newName_0 9 rfl) rfl 0 rfl rfl ?_
    refine w_cVIR (q := 19) (As := []) (st := [vR x.2.2.2 x0]) hx (dc kX2_newName_0 10 rfl) cf2 (by decide) rfl (cI _ my_X2_nextValue lm_X2_222 (by decide)) vs_X2_nextValue rfl (fun u hu => sX2_nextValue _ _ _ _ _ hu) (fun e => ite_ne (by unfold mX2_nextValue at e; exact e)) (sum_le (sum_R sum_nil) (by decide)) rfl (fun v3 => ?_)
    refine w_sI (q := 22) hx (dc kX2_newName_0 11 rfl) ff_X2_6 rfl lk_X2_101 (Or.inl rfl) rfl (fun h5 => ?_)
    refine j_aload_n (q := 23) hx (dc kX2_newName_0 12 rfl) rfl 0 rfl rfl ?_
    refine w_gR (q := 26) hx (dc kX2_newName_0 13 rfl) ff_X2_3 lk_X2_26 rfl (fun v6 => ?_)
    refine j_aload_n (q := 27) hx (dc kX2_newName_0 14 rfl) rfl 0 rfl rfl ?_
    refine w_gI (q := 30) hx (dc kX2_newName_0 15 rfl) ff_X2_6 lk_X2_101 rfl (fun v7 => ?_)
    refine w_cVIR (q := 33) (As := [.int v7]) (st := []) hx (dc kX2_newName_0 16 rfl) cf1 (by decide) rfl (cI _ my_X1_factNamed lm_X2_225 (by decide)) vs_X1_factNamed rfl (fun u hu => sX1_factNamed _ _ _ _ _ _ hu) (fun e => ite_ne (by unfold mX1_factNamed at e; exact e)) (Nat.zero_le _) rfl (fun v8 => ?_)
    refine j_if_geS (q := 36) (tgt := 50) hx (dc kX2_newName_0 17 rfl) (by decide) rfl ?_ ?_
    · exact hb50 x0 h5
    · refine j_aload_n (q := 37) hx (dc kX2_newName_0 18 rfl) rfl 0 rfl rfl ?_
      refine w_gR (q := 40) hx (dc kX2_newName_0 19 rfl) ff_X2_3 lk_X2_26 rfl (fun v12 => ?_)
      refine j_aload_n (q := 41) hx (dc kX2_newName_0 20 rfl) rfl 0 rfl rfl ?_
      refine w_gI (q := 44) hx (dc kX2_newName_0 21 rfl) ff_X2_6 lk_X2_101 rfl (fun v13 => ?_)
      refine w_cVIR (q := 47) (As := [.int v13]) (st := []) hx (dc kX2_newName_0 22 rfl) cf1 (by decide) rfl (cI _ my_X1_countNamed lm_X2_229 (by decide)) vs_X1_countNamed rfl (fun u hu => sX1_countNamed _ _ _ _ _ _ hu) (fun e => ite_ne (by unfold mX1_countNamed at e; exact e)) (Nat.zero_le _) rfl (fun v14 => ?_)
      refine j_if_lt (q := 50) (tgt := 56) hx (dc kX2_newName_0 23 rfl) (by decide) Iff.rfl rfl ?_ ?_
      · refine j_aload_n (q := 57) hx (dc kX2_newName_0 28 rfl) rfl 0 rfl rfl ?_
        refine j_dup (q := 58) hx (dc kX2_newName_0 29 rfl) (vR_cat _ _) rfl ?_
        refine w_gI (q := 61) hx (dc kX2_newName_0 30 rfl) ff_X2_5 lk_X2_65 rfl (fun v16 => ?_)
        refine j_iconst (q := 62) (v := (1 : Int32)) hx (dc kX2_newName_0 31 rfl) (by decide) rfl ?_
        refine j_iadd (q := 63) hx (dc kX2_newName_0 32 rfl) rfl ?_
        refine w_sI (q := 66) hx (dc kX2_newName_0 33 rfl) ff_X2_5 rfl lk_X2_65 (Or.inl rfl) rfl (fun h17 => ?_)
        refine j_iconst (q := 67) (v := (1 : Int32)) hx (dc kX2_newName_0 34 rfl) (by decide) rfl ?_
        exact r_cW hx (Or.inr rfl) hR (dc kX2_newName_0 35 rfl)
      · exact hb50 x0 h5
  · refine j_aload_n (q := 9) hx (dc kX2_newName_0 4 rfl) rfl 0 rfl rfl ?_
    refine j_iconst (q := 10) (v := (1 : Int32)) hx (dc kX2_newName_0 5 rfl) (by decide) rfl ?_
    refine w_cVIW (q := 13) (As := [.int (1 : Int32)]) (st := []) hx (dc kX2_newName_0 6 rfl) cf2 (by decide) rfl (cI _ my_X2_fail lm_X2_92 (by decide)) vs_X2_fail rfl (fun u hu => sX2_fail _ _ _ _ _ _ hu) (fun e => ite_ne (by unfold mX2_fail at e; exact e)) (Nat.zero_le _) rfl (fun v18 h19 => ?_)
    exact r_zW hx hR (dc kX2_newName_0 7 rfl)

set_option maxHeartbeats 4000000 in
set_option maxRecDepth 100000 in
theorem sX2_number (l : Launch) (w : Wd) (x0 : Nat) (x1 : Int32) (x2 : Int32) (h : Hp) (u : (Int32 × Hp)) (hK : mX2_number x0 x1 x2 h = some u) : M1 l w mi_X2_number 2 [vR w x0, .int x1, .int x2] h u.2 (some (.int u.1)) := by
  refine M1.of (own := RX2) (T := fun _ r => r = u) hK (by decide +kernel) rfl (by first | (simp only [lg_lenR, lg_lenI, lg_lenL, lg_len0]; decide) | decide) (fun x hx hnl hhf hl hw hret hnm hQ h0e => ⟨?_, rfl⟩)
  subst hw
  subst hl
  have hR : Rt x h u.2 (some (.int u.1)) ((some .boolean)) := ⟨h0e, hhf, hret, hQ⟩
  have hn : ∀ i, i < 3 → i < x.2.2.1.1.1 := fun i hi => by rw [hnl]; exact hi
  have e0 : lv_args 0 [vR x.2.2.2 x0, .int x1, .int x2] = [(0, vR x.2.2.2 x0), (1, .int x1), (2, .int x2)] := by simp only [lv_argsR, lv_argsI, lv_argsL, lv_args0]
  rw [e0]
  have hb38 : ∀ (x0 : Nat) (h : Hp), J x 38 [(0, vR x.2.2.2 x0)] [] h (mX2_number_b38 x0 h) (fun r => r = u) := by
    intro x0 h
    unfold mX2_number_b38
    refine j_aload_n (q := 39) hx (dc kX2_number_0 20 rfl) rfl 0 rfl rfl ?_
    refine j_iconst (q := 40) (v := (2 : Int32)) hx (dc kX2_number_0 21 rfl) (by decide) rfl ?_
    refine w_cVIW (q := 43) (As := [.int (2 : Int32)]) (st := []) hx (dc kX2_number_0 22 rfl) cf2 (by decide) rfl (cI _ my_X2_fail lm_X2_92 (by decide)) vs_X2_fail rfl (fun u hu => sX2_fail _ _ _ _ _ _ hu) (fun e => ite_ne (by unfold mX2_fail at e; exact e)) (Nat.zero_le _) rfl (fun v7 h8 => ?_)
    exact r_zW hx hR (dc kX2_number_0 23 rfl)
  unfold mX2_number
  refine J.ckd fun hck => ?_
  refine j_aload_n (q := 1) hx (dc kX2_number_0 0 rfl) rfl 0 rfl rfl ?_
  refine w_cVIR (q := 4) (As := []) (st := []) hx (dc kX2_number_0 1 rfl) cf2 (by decide) rfl (cI _ my_X2_nextKind lm_X2_46 (by decide)) vs_X2_nextKind rfl (fun u hu => sX2_nextKind _ _ _ _ _ hu) (fun e => ite_ne (by unfold mX2_nextKind at e; exact e)) (Nat.zero_le _) rfl (fun v1 => ?_)
  refine j_iconst (q := 5) (v := (3 : Int32)) hx (dc kX2_number_0 2 rfl) (by decide) rfl ?_
  refine j_icmp_eq (q := 8) (tgt := 14) hx (dc kX2_number_0 3 rfl) (by decide) Iff.rfl rfl ?_ ?_
  · refine j_aload_n (q := 15) hx (dc kX2_number_0 8 rfl) rfl 0 rfl rfl ?_
    refine j_aload_n (q := 16) hx (dc kX2_number_0 9 rfl) rfl 0 rfl rfl ?_
    refine w_cVIR (q := 19) (As := []) (st := [vR x.2.2.2 x0]) hx (dc kX2_number_0 10 rfl) cf2 (by decide) rfl (cI _ my_X2_nextValue lm_X2_222 (by decide)) vs_X2_nextValue rfl (fun u hu => sX2_nextValue _ _ _ _ _ hu) (fun e => ite_ne (by unfold mX2_nextValue at e; exact e)) (sum_le (sum_R sum_nil) (by decide)) rfl (fun v3 => ?_)
    refine w_sI (q := 22) hx (dc kX2_number_0 11 rfl) ff_X2_6 rfl lk_X2_101 (Or.inl rfl) rfl (fun h5 => ?_)
    refine j_aload_n (q := 23) hx (dc kX2_number_0 12 rfl) rfl 0 rfl rfl ?_
    refine w_gI (q := 26) hx (dc kX2_number_0 13 rfl) ff_X2_6 lk_X2_101 rfl (fun v6 => ?_)
    refine j_iload_n (q := 27) hx (dc kX2_number_0 14 rfl) rfl 1 rfl rfl ?_
    refine j_icmp_lt (q := 30) (tgt := 38) hx (dc kX2_number_0 15 rfl) (by decide) Iff.rfl rfl ?_ ?_
    · exact j_sub [0] rfl (hb38 x0 h5)
    · refine j_aload_n (q := 31) hx (dc kX2_number_0 16 rfl) rfl 0 rfl rfl ?_
      refine w_gI (q := 34) hx (dc kX2_number_0 17 rfl) ff_X2_6 lk_X2_101 rfl (fun v9 => ?_)
      refine j_iload_n (q := 35) hx (dc kX2_number_0 18 rfl) rfl 2 rfl rfl ?_
      refine j_icmp_leS (q := 38) (tgt := 44) hx (dc kX2_number_0 19 rfl) (by decide) rfl ?_ ?_
      · refine j_aload_n (q := 45) hx (dc kX2_number_0 24 rfl) rfl 0 rfl rfl ?_
        refine j_dup (q := 46) hx (dc kX2_number_0 25 rfl) (vR_cat _ _) rfl ?_
        refine w_gI (q := 49) hx (dc kX2_number_0 26 rfl) ff_X2_5 lk_X2_65 rfl (fun v10 => ?_)
        refine j_iconst (q := 50) (v := (1 : Int32)) hx (dc kX2_number_0 27 rfl) (by decide) rfl ?_
        refine j_iadd (q := 51) hx (dc kX2_number_0 28 rfl) rfl ?_
        refine w_sI (q := 54) hx (dc kX2_number_0 29 rfl) ff_X2_5 rfl lk_X2_65 (Or.inl rfl) rfl (fun h11 => ?_)
        refine j_iconst (q := 55) (v := (1 : Int32)) hx (dc kX2_number_0 30 rfl) (by decide) rfl ?_
        exact r_cW hx (Or.inr rfl) hR (dc kX2_number_0 31 rfl)
      · exact j_sub [0] rfl (hb38 x0 h5)
  · refine j_aload_n (q := 9) hx (dc kX2_number_0 4 rfl) rfl 0 rfl rfl ?_
    refine j_iconst (q := 10) (v := (1 : Int32)) hx (dc kX2_number_0 5 rfl) (by decide) rfl ?_
    refine w_cVIW (q := 13) (As := [.int (1 : Int32)]) (st := []) hx (dc kX2_number_0 6 rfl) cf2 (by decide) rfl (cI _ my_X2_fail lm_X2_92 (by decide)) vs_X2_fail rfl (fun u hu => sX2_fail _ _ _ _ _ _ hu) (fun e => ite_ne (by unfold mX2_fail at e; exact e)) (Nat.zero_le _) rfl (fun v12 h13 => ?_)
    exact r_zW hx hR (dc kX2_number_0 7 rfl)

set_option maxHeartbeats 4000000 in
set_option maxRecDepth 100000 in
theorem sX2_expect (l : Launch) (w : Wd) (x0 : Nat) (x1 : Int32) (h : Hp) (u : (Int32 × Hp)) (hK : mX2_expect x0 x1 h = some u) : M1 l w mi_X2_expect 2 [vR w x0, .int x1] h u.2 (some (.int u.1)) := by
  refine M1.of (own := RX2) (T := fun _ r => r = u) hK (by decide +kernel) rfl (by first | (simp only [lg_lenR, lg_lenI, lg_lenL, lg_len0]; decide) | decide) (fun x hx hnl hhf hl hw hret hnm hQ h0e => ⟨?_, rfl⟩)
  subst hw
  subst hl
  have hR : Rt x h u.2 (some (.int u.1)) ((some .boolean)) := ⟨h0e, hhf, hret, hQ⟩
  have hn : ∀ i, i < 2 → i < x.2.2.1.1.1 := fun i hi => by rw [hnl]; exact hi
  have e0 : lv_args 0 [vR x.2.2.2 x0, .int x1] = [(0, vR x.2.2.2 x0), (1, .int x1)] := by simp only [lv_argsR, lv_argsI, lv_argsL, lv_args0]
  rw [e0]
  unfold mX2_expect
  refine J.ckd fun hck => ?_
  refine j_aload_n (q := 1) hx (dc kX2_expect_0 0 rfl) rfl 0 rfl rfl ?_
  refine w_cVIR (q := 4) (As := []) (st := []) hx (dc kX2_expect_0 1 rfl) cf2 (by decide) rfl (cI _ my_X2_nextKind lm_X2_46 (by decide)) vs_X2_nextKind rfl (fun u hu => sX2_nextKind _ _ _ _ _ hu) (fun e => ite_ne (by unfold mX2_nextKind at e; exact e)) (Nat.zero_le _) rfl (fun v1 => ?_)
  refine j_iload_n (q := 5) hx (dc kX2_expect_0 2 rfl) rfl 1 rfl rfl ?_
  refine j_icmp_eq (q := 8) (tgt := 14) hx (dc kX2_expect_0 3 rfl) (by decide) Iff.rfl rfl ?_ ?_
  · refine j_aload_n (q := 15) hx (dc kX2_expect_0 8 rfl) rfl 0 rfl rfl ?_
    refine j_dup (q := 16) hx (dc kX2_expect_0 9 rfl) (vR_cat _ _) rfl ?_
    refine w_gI (q := 19) hx (dc kX2_expect_0 10 rfl) ff_X2_5 lk_X2_65 rfl (fun v3 => ?_)
    refine j_iconst (q := 20) (v := (1 : Int32)) hx (dc kX2_expect_0 11 rfl) (by decide) rfl ?_
    refine j_iadd (q := 21) hx (dc kX2_expect_0 12 rfl) rfl ?_
    refine w_sI (q := 24) hx (dc kX2_expect_0 13 rfl) ff_X2_5 rfl lk_X2_65 (Or.inl rfl) rfl (fun h4 => ?_)
    refine j_iconst (q := 25) (v := (1 : Int32)) hx (dc kX2_expect_0 14 rfl) (by decide) rfl ?_
    exact r_cW hx (Or.inr rfl) hR (dc kX2_expect_0 15 rfl)
  · refine j_aload_n (q := 9) hx (dc kX2_expect_0 4 rfl) rfl 0 rfl rfl ?_
    refine j_iconst (q := 10) (v := (1 : Int32)) hx (dc kX2_expect_0 5 rfl) (by decide) rfl ?_
    refine w_cVIW (q := 13) (As := [.int (1 : Int32)]) (st := []) hx (dc kX2_expect_0 6 rfl) cf2 (by decide) rfl (cI _ my_X2_fail lm_X2_92 (by decide)) vs_X2_fail rfl (fun u hu => sX2_fail _ _ _ _ _ _ hu) (fun e => ite_ne (by unfold mX2_fail at e; exact e)) (Nat.zero_le _) rfl (fun v5 h6 => ?_)
    exact r_zW hx hR (dc kX2_expect_0 7 rfl)

set_option maxHeartbeats 4000000 in
set_option maxRecDepth 100000 in
theorem sX2_readFact (l : Launch) (w : Wd) (x0 : Nat) (h : Hp) (u : (Int32 × Hp)) (hK : mX2_readFact x0 h = some u) : M1 l w mi_X2_readFact 3 [vR w x0] h u.2 (some (.int u.1)) := by
  refine M1.of (own := RX2) (T := fun _ r => r = u) hK (by decide +kernel) rfl (by first | (simp only [lg_lenR, lg_lenI, lg_lenL, lg_len0]; decide) | decide) (fun x hx hnl hhf hl hw hret hnm hQ h0e => ⟨?_, rfl⟩)
  subst hw
  subst hl
  have hR : Rt x h u.2 (some (.int u.1)) ((some .boolean)) := ⟨h0e, hhf, hret, hQ⟩
  have hn : ∀ i, i < 3 → i < x.2.2.1.1.1 := fun i hi => by rw [hnl]; exact hi
  have e0 : lv_args 0 [vR x.2.2.2 x0] = [(0, vR x.2.2.2 x0)] := by simp only [lv_argsR, lv_argsI, lv_argsL, lv_args0]
  rw [e0]
  have hb69 : ∀ (x0 : Nat) (x1 : Int32) (x2 : Int32) (h : Hp), J x 69 [(0, vR x.2.2.2 x0), (1, .int x1), (2, .int x2)] [] h (mX2_readFact_b69 x0 x1 x2 h) (fun r => r = u) := by
    intro x0 x1 x2 h
    unfold mX2_readFact_b69
    refine j_aload_n (q := 70) hx (dc kX2_readFact_0 39 rfl) rfl 0 rfl rfl ?_
    refine w_gR (q := 73) hx (dc kX2_readFact_0 40 rfl) ff_X2_3 lk_X2_26 rfl (fun v10 => ?_)
    refine w_gR (q := 76) hx (dc kX2_readFact_0 41 rfl) ff_X1_7 lk_X2_108 rfl (fun v11 => ?_)
    refine j_aload_n (q := 77) hx (dc kX2_readFact_0 42 rfl) rfl 0 rfl rfl ?_
    refine w_gR (q := 80) hx (dc kX2_readFact_0 43 rfl) ff_X2_3 lk_X2_26 rfl (fun v12 => ?_)
    refine w_gI (q := 83) hx (dc kX2_readFact_0 44 rfl) ff_X1_1 lk_X2_95 rfl (fun v13 => ?_)
    refine j_iload_n (q := 84) hx (dc kX2_readFact_0 45 rfl) rfl 1 rfl rfl ?_
    refine w_cSVW (q := 87) (As := [vR x.2.2.2 v11, .int v13, .int x1]) (st := []) hx (dc kX2_readFact_0 46 rfl) (cI _ my_X11_put lm_X2_112 (by decide)) st_X11_put rfl (fun u hu => sX11_put _ _ _ _ _ _ _ hu) (Nat.zero_le _) rfl (fun h15 => ?_)
    refine j_aload_n (q := 88) hx (dc kX2_readFact_0 47 rfl) rfl 0 rfl rfl ?_
    refine w_gR (q := 91) hx (dc kX2_readFact_0 48 rfl) ff_X2_3 lk_X2_26 rfl (fun v16 => ?_)
    refine w_gR (q := 94) hx (dc kX2_readFact_0 49 rfl) ff_X1_6 lk_X2_116 rfl (fun v17 => ?_)
    refine j_aload_n (q := 95) hx (dc kX2_readFact_0 50 rfl) rfl 0 rfl rfl ?_
    refine w_gR (q := 98) hx (dc kX2_readFact_0 51 rfl) ff_X2_3 lk_X2_26 rfl (fun v18 => ?_)
    refine w_gI (q := 101) hx (dc kX2_readFact_0 52 rfl) ff_X1_1 lk_X2_95 rfl (fun v19 => ?_)
    refine j_iload_n (q := 102) hx (dc kX2_readFact_0 53 rfl) rfl 2 rfl rfl ?_
    refine w_cSVW (q := 105) (As := [vR x.2.2.2 v17, .int v19, .int x2]) (st := []) hx (dc kX2_readFact_0 54 rfl) (cI _ my_X11_put lm_X2_112 (by decide)) st_X11_put rfl (fun u hu => sX11_put _ _ _ _ _ _ _ hu) (Nat.zero_le _) rfl (fun h21 => ?_)
    refine j_aload_n (q := 106) hx (dc kX2_readFact_0 55 rfl) rfl 0 rfl rfl ?_
    refine w_gR (q := 109) hx (dc kX2_readFact_0 56 rfl) ff_X2_3 lk_X2_26 rfl (fun v22 => ?_)
    refine j_dup (q := 110) hx (dc kX2_readFact_0 57 rfl) (vR_cat _ _) rfl ?_
    refine w_gI (q := 113) hx (dc kX2_readFact_0 58 rfl) ff_X1_1 lk_X2_95 rfl (fun v23 => ?_)
    refine j_iconst (q := 114) (v := (1 : Int32)) hx (dc kX2_readFact_0 59 rfl) (by decide) rfl ?_
    refine j_iadd (q := 115) hx (dc kX2_readFact_0 60 rfl) rfl ?_
    refine w_sI (q := 118) hx (dc kX2_readFact_0 61 rfl) ff_X1_1 rfl lk_X2_95 (Or.inl rfl) rfl (fun h24 => ?_)
    refine j_aload_n (q := 119) hx (dc kX2_readFact_0 62 rfl) rfl 0 rfl rfl ?_
    refine j_bipush (q := 121) (v := (59 : Int32)) hx (dc kX2_readFact_0 63 rfl) (by decide) rfl ?_
    refine w_cVIW (q := 124) (As := [.int (59 : Int32)]) (st := []) hx (dc kX2_readFact_1 0 rfl) cf2 (by decide) rfl (cI _ my_X2_expect lm_X2_62 (by decide)) vs_X2_expect rfl (fun u hu => sX2_expect _ _ _ _ _ _ hu) (fun e => ite_ne (by unfold mX2_expect at e; exact e)) (Nat.zero_le _) rfl (fun v25 h26 => ?_)
    exact r_zW hx hR (dc kX2_readFact_1 1 rfl)
  unfold mX2_readFact
  refine J.ckd fun hck => ?_
  refine j_aload_n (q := 1) hx (dc kX2_readFact_0 0 rfl) rfl 0 rfl rfl ?_
  refine w_gR (q := 4) hx (dc kX2_readFact_0 1 rfl) ff_X2_3 lk_X2_26 rfl (fun v1 => ?_)
  refine w_gI (q := 7) hx (dc kX2_readFact_0 2 rfl) ff_X1_1 lk_X2_95 rfl (fun v2 => ?_)
  refine j_bipush (q := 9) (v := (8 : Int32)) hx (dc kX2_readFact_0 3 rfl) (by decide) rfl ?_
  refine j_icmp_lt (q := 12) (tgt := 18) hx (dc kX2_readFact_0 4 rfl) (by decide) Iff.rfl rfl ?_ ?_
  · refine j_aload_n (q := 19) hx (dc kX2_readFact_0 9 rfl) rfl 0 rfl rfl ?_
    refine j_dup (q := 20) hx (dc kX2_readFact_0 10 rfl) (vR_cat _ _) rfl ?_
    refine w_gI (q := 23) hx (dc kX2_readFact_0 11 rfl) ff_X2_5 lk_X2_65 rfl (fun v3 => ?_)
    refine j_iconst (q := 24) (v := (1 : Int32)) hx (dc kX2_readFact_0 12 rfl) (by decide) rfl ?_
    refine j_iadd (q := 25) hx (dc kX2_readFact_0 13 rfl) rfl ?_
    refine w_sI (q := 28) hx (dc kX2_readFact_0 14 rfl) ff_X2_5 rfl lk_X2_65 (Or.inl rfl) rfl (fun h4 => ?_)
    refine j_aload_n (q := 29) hx (dc kX2_readFact_0 15 rfl) rfl 0 rfl rfl ?_
    refine w_cVIW (q := 32) (As := []) (st := []) hx (dc kX2_readFact_0 16 rfl) cf2 (by decide) rfl (cI _ my_X2_newName lm_X2_98 (by decide)) vs_X2_newName rfl (fun u hu => sX2_newName _ _ _ _ _ hu) (fun e => ite_ne (by unfold mX2_newName at e; exact e)) (Nat.zero_le _) rfl (fun v5 h6 => ?_)
    refine j_if_neS (q := 35) (tgt := 37) hx (dc kX2_readFact_0 17 rfl) (by decide) rfl ?_ ?_
    · refine j_aload_n (q := 38) hx (dc kX2_readFact_0 20 rfl) rfl 0 rfl rfl ?_
      refine w_gI (q := 41) hx (dc kX2_readFact_0 21 rfl) ff_X2_6 lk_X2_101 rfl (fun v7 => ?_)
      refine j_istore_n (q := 42) (i := 1) (l2 := [(0, vR x.2.2.2 x0)]) hx (dc kX2_readFact_0 22 rfl) rfl (hn 1 (by decide)) [0] rfl ⟨⟨show (0 : Nat) ≠ 1 by decide, Or.inr (vR_cat _ _)⟩, trivial⟩ rfl ?_
      refine j_iconst (q := 43) (v := (5 : Int32)) hx (dc kX2_readFact_0 23 rfl) (by decide) rfl ?_
      refine j_istore_n (q := 44) (i := 2) (l2 := [(1, .int v7), (0, vR x.2.2.2 x0)]) hx (dc kX2_readFact_0 24 rfl) rfl (hn 2 (by decide)) [0, 1] rfl ⟨⟨show (1 : Nat) ≠ 2 by decide, Or.inr rfl⟩, ⟨⟨show (0 : Nat) ≠ 2 by decide, Or.inl (show (0 : Nat) + 1 ≠ 2 by decide)⟩, trivial⟩⟩ rfl ?_
      refine j_aload_n (q := 45) hx (dc kX2_readFact_0 25 rfl) rfl 2 rfl rfl ?_
      refine w_cVIR (q := 48) (As := []) (st := []) hx (dc kX2_readFact_0 26 rfl) cf2 (by decide) rfl (cI _ my_X2_nextKind lm_X2_46 (by decide)) vs_X2_nextKind rfl (fun u hu => sX2_nextKind _ _ _ _ _ hu) (fun e => ite_ne (by unfold mX2_nextKind at e; exact e)) (Nat.zero_le _) rfl (fun v8 => ?_)
      refine j_iconst (q := 49) (v := (3 : Int32)) hx (dc kX2_readFact_0 27 rfl) (by decide) rfl ?_
      refine j_icmp_neS (q := 52) (tgt := 69) hx (dc kX2_readFact_0 28 rfl) (by decide) rfl ?_ ?_
      · exact j_sub [2, 1, 0] rfl (hb69 x0 v7 (5 : Int32) h6)
      · refine j_aload_n (q := 53) hx (dc kX2_readFact_0 29 rfl) rfl 2 rfl rfl ?_
        refine j_iconst (q := 54) (v := (1 : Int32)) hx (dc kX2_readFact_0 30 rfl) (by decide) rfl ?_
        refine j_bipush (q := 56) (v := (9 : Int32)) hx (dc kX2_readFact_0 31 rfl) (by decide) rfl ?_
        refine w_cVIW (q := 59) (As := [.int (1 : Int32), .int (9 : Int32)]) (st := []) hx (dc kX2_readFact_0 32 rfl) cf2 (by decide) rfl (cI _ my_X2_number lm_X2_104 (by decide)) vs_X2_number rfl (fun u hu => sX2_number _ _ _ _ _ _ _ hu) (fun e => ite_ne (by unfold mX2_number at e; exact e)) (Nat.zero_le _) rfl (fun v27 h28 => ?_)
        refine j_if_neS (q := 62) (tgt := 64) hx (dc kX2_readFact_0 33 rfl) (by decide) rfl ?_ ?_
        · refine j_aload_n (q := 65) hx (dc kX2_readFact_0 36 rfl) rfl 2 rfl rfl ?_
          refine w_gI (q := 68) hx (dc kX2_readFact_0 37 rfl) ff_X2_6 lk_X2_101 rfl (fun v29 => ?_)
          refine j_istore_n (q := 69) (i := 2) (l2 := [(1, .int v7), (0, vR x.2.2.2 x0)]) hx (dc kX2_readFact_0 38 rfl) rfl (hn 2 (by decide)) [1, 2] rfl ⟨⟨show (1 : Nat) ≠ 2 by decide, Or.inr rfl⟩, ⟨⟨show (0 : Nat) ≠ 2 by decide, Or.inl (show (0 : Nat) + 1 ≠ 2 by decide)⟩, trivial⟩⟩ rfl ?_
          exact j_sub [2, 1, 0] rfl (hb69 x0 v7 v29 h28)
        · refine j_iconst (q := 63) (v := (0 : Int32)) hx (dc kX2_readFact_0 34 rfl) (by decide) rfl ?_
          exact r_cW hx (Or.inl rfl) hR (dc kX2_readFact_0 35 rfl)
    · refine j_iconst (q := 36) (v := (0 : Int32)) hx (dc kX2_readFact_0 18 rfl) (by decide) rfl ?_
      exact r_cW hx (Or.inl rfl) hR (dc kX2_readFact_0 19 rfl)
  · refine j_aload_n (q := 13) hx (dc kX2_readFact_0 5 rfl) rfl 0 rfl rfl ?_
    refine j_iconst (q := 14) (v := (4 : Int32)) hx (dc kX2_readFact_0 6 rfl) (by decide) rfl ?_
    refine w_cVIW (q := 17) (As := [.int (4 : Int32)]) (st := []) hx (dc kX2_readFact_0 7 rfl) cf2 (by decide) rfl (cI _ my_X2_fail lm_X2_92 (by decide)) vs_X2_fail rfl (fun u hu => sX2_fail _ _ _ _ _ _ hu) (fun e => ite_ne (by unfold mX2_fail at e; exact e)) (Nat.zero_le _) rfl (fun v30 h31 => ?_)
    exact r_zW hx hR (dc kX2_readFact_0 8 rfl)

set_option maxHeartbeats 4000000 in
set_option maxRecDepth 100000 in
theorem sX2_seventhFault (l : Launch) (w : Wd) (x0 : Nat) (h : Hp) (u : Int32) (hK : mX2_seventhFault x0 h = some u) : M1 l w mi_X2_seventhFault 2 [vR w x0] h h (some (.int u)) := by
  refine M1.of (own := RX2) (T := fun _ r => r = u) hK (by decide +kernel) rfl (by first | (simp only [lg_lenR, lg_lenI, lg_lenL, lg_len0]; decide) | decide) (fun x hx hnl hhf hl hw hret hnm hQ h0e => ⟨?_, rfl⟩)
  subst hw
  subst hl
  have hR : Rt x h h (some (.int u)) ((some .int)) := ⟨h0e, hhf, hret, hQ⟩
  have hn : ∀ i, i < 1 → i < x.2.2.1.1.1 := fun i hi => by rw [hnl]; exact hi
  have e0 : lv_args 0 [vR x.2.2.2 x0] = [(0, vR x.2.2.2 x0)] := by simp only [lv_argsR, lv_argsI, lv_argsL, lv_args0]
  rw [e0]
  unfold mX2_seventhFault
  refine J.ckd fun hck => ?_
  refine j_aload_n (q := 1) hx (dc kX2_seventhFault_0 0 rfl) rfl 0 rfl rfl ?_
  refine w_cVIR (q := 4) (As := []) (st := []) hx (dc kX2_seventhFault_0 1 rfl) cf2 (by decide) rfl (cI _ my_X2_nextKind lm_X2_46 (by decide)) vs_X2_nextKind rfl (fun u hu => sX2_nextKind _ _ _ _ _ hu) (fun e => ite_ne (by unfold mX2_nextKind at e; exact e)) (Nat.zero_le _) rfl (fun v1 => ?_)
  refine j_lsw hx (dc kX2_seventhFault_0 2 rfl) (by decide) ⟨rfl, ⟨65, by decide, ?_⟩, ⟨rfl, ⟨50, by decide, ?_⟩, ⟨rfl, ⟨48, by decide, ?_⟩, ⟨rfl, ⟨48, by decide, ?_⟩, ⟨85, by decide, ?_⟩⟩⟩⟩⟩
  · refine j_aload_n (q := 66) hx (dc kX2_seventhFault_0 13 rfl) rfl 0 rfl rfl ?_
    refine w_gR (q := 69) hx (dc kX2_seventhFault_0 14 rfl) ff_X2_3 lk_X2_26 rfl (fun v3 => ?_)
    refine j_aload_n (q := 70) hx (dc kX2_seventhFault_0 15 rfl) rfl 0 rfl rfl ?_
    refine w_cVIR (q := 73) (As := []) (st := [vR x.2.2.2 v3]) hx (dc kX2_seventhFault_0 16 rfl) cf2 (by decide) rfl (cI _ my_X2_nextValue lm_X2_222 (by decide)) vs_X2_nextValue rfl (fun u hu => sX2_nextValue _ _ _ _ _ hu) (fun e => ite_ne (by unfold mX2_nextValue at e; exact e)) (sum_le (sum_R sum_nil) (by decide)) rfl (fun v4 => ?_)
    refine w_cVIR (q := 76) (As := [.int v4]) (st := []) hx (dc kX2_seventhFault_0 17 rfl) cf1 (by decide) rfl (cI _ my_X1_factNamed lm_X2_225 (by decide)) vs_X1_factNamed rfl (fun u hu => sX1_factNamed _ _ _ _ _ _ hu) (fun e => ite_ne (by unfold mX1_factNamed at e; exact e)) (Nat.zero_le _) rfl (fun v6 => ?_)
    refine j_if_geS (q := 79) (tgt := 83) hx (dc kX2_seventhFault_0 18 rfl) (by decide) rfl ?_ ?_
    · refine j_iconst (q := 84) (v := (4 : Int32)) hx (dc kX2_seventhFault_0 21 rfl) (by decide) rfl ?_
      exact r_iR hx hR (dc kX2_seventhFault_0 22 rfl)
    · refine j_iconst (q := 80) (v := (3 : Int32)) hx (dc kX2_seventhFault_0 19 rfl) (by decide) rfl ?_
      refine j_goto (q := 84) hx (dc kX2_seventhFault_0 20 rfl) (by decide) ?_
      exact r_iR hx hR (dc kX2_seventhFault_0 22 rfl)
  · refine j_aload_n (q := 51) hx (dc kX2_seventhFault_0 5 rfl) rfl 0 rfl rfl ?_
    refine w_cVIR (q := 54) (As := []) (st := []) hx (dc kX2_seventhFault_0 6 rfl) cf2 (by decide) rfl (cI _ my_X2_nextValue lm_X2_222 (by decide)) vs_X2_nextValue rfl (fun u hu => sX2_nextValue _ _ _ _ _ hu) (fun e => ite_ne (by unfold mX2_nextValue at e; exact e)) (Nat.zero_le _) rfl (fun v8 => ?_)
    refine j_bipush (q := 56) (v := (6 : Int32)) hx (dc kX2_seventhFault_0 7 rfl) (by decide) rfl ?_
    refine j_icmp_leS (q := 59) (tgt := 63) hx (dc kX2_seventhFault_0 8 rfl) (by decide) rfl ?_ ?_
    · refine j_iconst (q := 64) (v := (4 : Int32)) hx (dc kX2_seventhFault_0 11 rfl) (by decide) rfl ?_
      exact r_iR hx hR (dc kX2_seventhFault_0 12 rfl)
    · refine j_iconst (q := 60) (v := (2 : Int32)) hx (dc kX2_seventhFault_0 9 rfl) (by decide) rfl ?_
      refine j_goto (q := 64) hx (dc kX2_seventhFault_0 10 rfl) (by decide) ?_
      exact r_iR hx hR (dc kX2_seventhFault_0 12 rfl)
  · refine j_iconst (q := 49) (v := (4 : Int32)) hx (dc kX2_seventhFault_0 3 rfl) (by decide) rfl ?_
    exact r_iR hx hR (dc kX2_seventhFault_0 4 rfl)
  · refine j_iconst (q := 49) (v := (4 : Int32)) hx (dc kX2_seventhFault_0 3 rfl) (by decide) rfl ?_
    exact r_iR hx hR (dc kX2_seventhFault_0 4 rfl)
  · refine j_iconst (q := 86) (v := (1 : Int32)) hx (dc kX2_seventhFault_0 23 rfl) (by decide) rfl ?_
    exact r_iR hx hR (dc kX2_seventhFault_0 24 rfl)

set_option maxHeartbeats 4000000 in
set_option maxRecDepth 100000 in
theorem sX2_knownFact (l : Launch) (w : Wd) (x0 : Nat) (h : Hp) (u : (Int32 × Hp)) (hK : mX2_knownFact x0 h = some u) : M1 l w mi_X2_knownFact 2 [vR w x0] h u.2 (some (.int u.1)) := by
  refine M1.of (own := RX2) (T := fun _ r => r = u) hK (by decide +kernel) rfl (by first | (simp only [lg_lenR, lg_lenI, lg_lenL, lg_len0]; decide) | decide) (fun x hx hnl hhf hl hw hret hnm hQ h0e => ⟨?_, rfl⟩)
  subst hw
  subst hl
  have hR : Rt x h u.2 (some (.int u.1)) ((some .boolean)) := ⟨h0e, hhf, hret, hQ⟩
  have hn : ∀ i, i < 1 → i < x.2.2.1.1.1 := fun i hi => by rw [hnl]; exact hi
  have e0 : lv_args 0 [vR x.2.2.2 x0] = [(0, vR x.2.2.2 x0)] := by simp only [lv_argsR, lv_argsI, lv_argsL, lv_args0]
  rw [e0]
  unfold mX2_knownFact
  refine J.ckd fun hck => ?_
  refine j_aload_n (q := 1) hx (dc kX2_knownFact_0 0 rfl) rfl 0 rfl rfl ?_
  refine w_cVIR (q := 4) (As := []) (st := []) hx (dc kX2_knownFact_0 1 rfl) cf2 (by decide) rfl (cI _ my_X2_nextKind lm_X2_46 (by decide)) vs_X2_nextKind rfl (fun u hu => sX2_nextKind _ _ _ _ _ hu) (fun e => ite_ne (by unfold mX2_nextKind at e; exact e)) (Nat.zero_le _) rfl (fun v1 => ?_)
  refine j_iconst (q := 5) (v := (2 : Int32)) hx (dc kX2_knownFact_0 2 rfl) (by decide) rfl ?_
  refine j_icmp_eq (q := 8) (tgt := 14) hx (dc kX2_knownFact_0 3 rfl) (by decide) Iff.rfl rfl ?_ ?_
  · refine j_aload_n (q := 15) hx (dc kX2_knownFact_0 8 rfl) rfl 0 rfl rfl ?_
    refine j_aload_n (q := 16) hx (dc kX2_knownFact_0 9 rfl) rfl 0 rfl rfl ?_
    refine w_gR (q := 19) hx (dc kX2_knownFact_0 10 rfl) ff_X2_3 lk_X2_26 rfl (fun v3 => ?_)
    refine j_aload_n (q := 20) hx (dc kX2_knownFact_0 11 rfl) rfl 0 rfl rfl ?_
    refine w_cVIR (q := 23) (As := []) (st := [vR x.2.2.2 v3, vR x.2.2.2 x0]) hx (dc kX2_knownFact_0 12 rfl) cf2 (by decide) rfl (cI _ my_X2_nextValue lm_X2_222 (by decide)) vs_X2_nextValue rfl (fun u hu => sX2_nextValue _ _ _ _ _ hu) (fun e => ite_ne (by unfold mX2_nextValue at e; exact e)) (sum_le (sum_R (sum_R sum_nil)) (by decide)) rfl (fun v4 => ?_)
    refine w_cVIR (q := 26) (As := [.int v4]) (st := [vR x.2.2.2 x0]) hx (dc kX2_knownFact_0 13 rfl) cf1 (by decide) rfl (cI _ my_X1_factNamed lm_X2_225 (by decide)) vs_X1_factNamed rfl (fun u hu => sX1_factNamed _ _ _ _ _ _ hu) (fun e => ite_ne (by unfold mX1_factNamed at e; exact e)) (sum_le (sum_R sum_nil) (by decide)) rfl (fun v6 => ?_)
    refine w_sI (q := 29) hx (dc kX2_knownFact_0 14 rfl) ff_X2_6 rfl lk_X2_101 (Or.inl rfl) rfl (fun h8 => ?_)
    refine j_aload_n (q := 30) hx (dc kX2_knownFact_0 15 rfl) rfl 0 rfl rfl ?_
    refine w_gI (q := 33) hx (dc kX2_knownFact_0 16 rfl) ff_X2_6 lk_X2_101 rfl (fun v9 => ?_)
    refine j_if_geS (q := 36) (tgt := 42) hx (dc kX2_knownFact_0 17 rfl) (by decide) rfl ?_ ?_
    · refine j_aload_n (q := 43) hx (dc kX2_knownFact_0 22 rfl) rfl 0 rfl rfl ?_
      refine j_dup (q := 44) hx (dc kX2_knownFact_0 23 rfl) (vR_cat _ _) rfl ?_
      refine w_gI (q := 47) hx (dc kX2_knownFact_0 24 rfl) ff_X2_5 lk_X2_65 rfl (fun v10 => ?_)
      refine j_iconst (q := 48) (v := (1 : Int32)) hx (dc kX2_knownFact_0 25 rfl) (by decide) rfl ?_
      refine j_iadd (q := 49) hx (dc kX2_knownFact_0 26 rfl) rfl ?_
      refine w_sI (q := 52) hx (dc kX2_knownFact_0 27 rfl) ff_X2_5 rfl lk_X2_65 (Or.inl rfl) rfl (fun h11 => ?_)
      refine j_iconst (q := 53) (v := (1 : Int32)) hx (dc kX2_knownFact_0 28 rfl) (by decide) rfl ?_
      exact r_cW hx (Or.inr rfl) hR (dc kX2_knownFact_0 29 rfl)
    · refine j_aload_n (q := 37) hx (dc kX2_knownFact_0 18 rfl) rfl 0 rfl rfl ?_
      refine j_iconst (q := 38) (v := (3 : Int32)) hx (dc kX2_knownFact_0 19 rfl) (by decide) rfl ?_
      refine w_cVIW (q := 41) (As := [.int (3 : Int32)]) (st := []) hx (dc kX2_knownFact_0 20 rfl) cf2 (by decide) rfl (cI _ my_X2_fail lm_X2_92 (by decide)) vs_X2_fail rfl (fun u hu => sX2_fail _ _ _ _ _ _ hu) (fun e => ite_ne (by unfold mX2_fail at e; exact e)) (Nat.zero_le _) rfl (fun v12 h13 => ?_)
      exact r_zW hx hR (dc kX2_knownFact_0 21 rfl)
  · refine j_aload_n (q := 9) hx (dc kX2_knownFact_0 4 rfl) rfl 0 rfl rfl ?_
    refine j_iconst (q := 10) (v := (1 : Int32)) hx (dc kX2_knownFact_0 5 rfl) (by decide) rfl ?_
    refine w_cVIW (q := 13) (As := [.int (1 : Int32)]) (st := []) hx (dc kX2_knownFact_0 6 rfl) cf2 (by decide) rfl (cI _ my_X2_fail lm_X2_92 (by decide)) vs_X2_fail rfl (fun u hu => sX2_fail _ _ _ _ _ _ hu) (fun e => ite_ne (by unfold mX2_fail at e; exact e)) (Nat.zero_le _) rfl (fun v14 h15 => ?_)
    exact r_zW hx hR (dc kX2_knownFact_0 7 rfl)

set_option maxHeartbeats 4000000 in
set_option maxRecDepth 100000 in
theorem sX2_readEither_F (d : Nat) (hd : 2 ≤ d) (g : GTX2_readEither) (hg0 : ∀ (l : Launch) (w : Wd) (x0 : Nat) (x1 : Int32) (h : Hp) (u : (Int32 × Hp)), g.1 x0 x1 h = some u → M1 l w mi_X2_readEither d [vR w x0, .int x1] h u.2 (some (.int u.1))) (hk0 : ∀ (x0 : Nat) (x1 : Int32) (h : Hp), g.1 x0 x1 h ≠ none → (hpS h x0).1 = 3) (hg1 : ∀ (l : Launch) (w : Wd) (x0 : Nat) (x1 : Int32) (h : Hp) (u : (Int32 × Hp)), g.2.1 x0 x1 h = some u → M1 l w mi_X2_readEvery d [vR w x0, .int x1] h u.2 (some (.int u.1))) (hk1 : ∀ (x0 : Nat) (x1 : Int32) (h : Hp), g.2.1 x0 x1 h ≠ none → (hpS h x0).1 = 3) (hg2 : ∀ (l : Launch) (w : Wd) (x0 : Nat) (x1 : Int32) (h : Hp) (u : (Int32 × Hp)), g.2.2.1 x0 x1 h = some u → M1 l w mi_X2_readOne d [vR w x0, .int x1] h u.2 (some (.int u.1))) (hk2 : ∀ (x0 : Nat) (x1 : Int32) (h : Hp), g.2.2.1 x0 x1 h ≠ none → (hpS h x0).1 = 3) (hg3 : ∀ (l : Launch) (w : Wd) (x0 : Nat) (x1 : Int32) (h : Hp) (u : (Int32 × Hp)), g.2.2.2 x0 x1 h = some u → M1 l w mi_X2_readSeveral d [vR w x0, .int x1] h u.2 (some (.int u.1))) (hk3 : ∀ (x0 : Nat) (x1 : Int32) (h : Hp), g.2.2.2 x0 x1 h ≠ none → (hpS h x0).1 = 3) (l : Launch) (w : Wd) (x0 : Nat) (x1 : Int32) (h : Hp) (u : (Int32 × Hp)) (hK : mX2_readEither_F g x0 x1 h = some u) : M1 l w mi_X2_readEither (d + 1) [vR w x0, .int x1] h u.2 (some (.int u.1)) := by
  refine M1.of (own := RX2) (T := fun _ r => r = u) hK (by decide +kernel) rfl (by first | (simp only [lg_lenR, lg_lenI, lg_lenL, lg_len0]; decide) | decide) (fun x hx hnl hhf hl hw hret hnm hQ h0e => ⟨?_, rfl⟩)
  subst hw
  subst hl
  have hR : Rt x h u.2 (some (.int u.1)) ((some .boolean)) := ⟨h0e, hhf, hret, hQ⟩
  have hn : ∀ i, i < 3 → i < x.2.2.1.1.1 := fun i hi => by rw [hnl]; exact hi
  have e0 : lv_args 0 [vR x.2.2.2 x0, .int x1] = [(0, vR x.2.2.2 x0), (1, .int x1)] := by simp only [lv_argsR, lv_argsI, lv_argsL, lv_args0]
  rw [e0]
  have hb12 : ∀ (x0 : Nat) (x1 : Int32) (x2 : Int32) (h : Hp), J x 12 [(0, vR x.2.2.2 x0), (1, .int x1), (2, .int x2)] [] h (mX2_readEither_l12 g x0 x1 x2 h) (fun r => r = u) := by
    intro x0 x1 x2 h
    have hB : ∀ (x2 : Int32) (h : Hp), J x 12 [(0, vR x.2.2.2 x0), (1, .int x1), (2, .int x2)] [] h (mX2_readEither_l12f g x0 x1 x2 h) (TLo (S := (Int32 × Hp)) x 12 (fun s => [(0, vR x.2.2.2 x0), (1, .int x1), (2, .int s.1)]) [] (fun s => s.2) (fun r => r = u)) := by
      intro x2 h
      unfold mX2_readEither_l12f
      refine j_iload_n (q := 13) hx (dc kX2_readEither_0 8 rfl) rfl 2 rfl rfl ?_
      refine j_sipush (q := 16) (v := (480 : Int32)) hx (dc kX2_readEither_0 9 rfl) (by decide) rfl ?_
      refine j_icmp_geS (q := 19) (tgt := 63) hx (dc kX2_readEither_0 10 rfl) (by decide) rfl ?_ ?_
      · refine j_exit ?_
        refine j_iconst (q := 64) (v := (1 : Int32)) hx (dc kX2_readEither_0 33 rfl) (by decide) rfl ?_
        exact r_cW hx (Or.inr rfl) hR (dc kX2_readEither_0 34 rfl)
      · refine j_aload_n (q := 20) hx (dc kX2_readEither_0 11 rfl) rfl 0 rfl rfl ?_
        refine w_cVIR (q := 23) (As := []) (st := []) hx (dc kX2_readEither_0 12 rfl) cf2 (by decide) rfl (cI _ my_X2_nextKind lm_X2_46 (by omega)) vs_X2_nextKind rfl (fun u hu => sX2_nextKind _ _ _ _ _ hu) (fun e => ite_ne (by unfold mX2_nextKind at e; exact e)) (Nat.zero_le _) rfl (fun v3 => ?_)
        refine j_bipush (q := 25) (v := (124 : Int32)) hx (dc kX2_readEither_0 13 rfl) (by decide) rfl ?_
        refine j_icmp_neS (q := 28) (tgt := 63) hx (dc kX2_readEither_0 14 rfl) (by decide) rfl ?_ ?_
        · refine j_exit ?_
          refine j_iconst (q := 64) (v := (1 : Int32)) hx (dc kX2_readEither_0 33 rfl) (by decide) rfl ?_
          exact r_cW hx (Or.inr rfl) hR (dc kX2_readEither_0 34 rfl)
        · refine j_aload_n (q := 29) hx (dc kX2_readEither_0 15 rfl) rfl 0 rfl rfl ?_
          refine j_dup (q := 30) hx (dc kX2_readEither_0 16 rfl) (vR_cat _ _) rfl ?_
          refine w_gI (q := 33) hx (dc kX2_readEither_0 17 rfl) ff_X2_5 lk_X2_65 rfl (fun v5 => ?_)
          refine j_iconst (q := 34) (v := (1 : Int32)) hx (dc kX2_readEither_0 18 rfl) (by decide) rfl ?_
          refine j_iadd (q := 35) hx (dc kX2_readEither_0 19 rfl) rfl ?_
          refine w_sI (q := 38) hx (dc kX2_readEither_0 20 rfl) ff_X2_5 rfl lk_X2_65 (Or.inl rfl) rfl (fun h6 => ?_)
          refine j_aload_n (q := 39) hx (dc kX2_readEither_0 21 rfl) rfl 0 rfl rfl ?_
          refine j_iload_n (q := 40) hx (dc kX2_readEither_0 22 rfl) rfl 1 rfl rfl ?_
          refine w_cVIW (q := 43) (As := [.int x1]) (st := []) hx (dc kX2_readEither_0 23 rfl) cf2 (by decide) rfl (cI _ my_X2_readEvery lm_X2_206 (by omega)) vs_X2_readEvery rfl (fun u hu => hg1 _ _ _ _ _ _ hu) (hk1 _ _ _) (Nat.zero_le _) rfl (fun v7 h8 => ?_)
          refine j_if_neS (q := 46) (tgt := 48) hx (dc kX2_readEither_0 24 rfl) (by decide) rfl ?_ ?_
          · refine j_aload_n (q := 49) hx (dc kX2_readEither_0 27 rfl) rfl 0 rfl rfl ?_
            refine w_gR (q := 52) hx (dc kX2_readEither_0 28 rfl) ff_X2_3 lk_X2_26 rfl (fun v9 => ?_)
            refine j_bipush (q := 54) (v := (10 : Int32)) hx (dc kX2_readEither_0 29 rfl) (by decide) rfl ?_
            refine w_cVVW (q := 57) (As := [.int (10 : Int32)]) (st := []) hx (dc kX2_readEither_0 30 rfl) cf1 (by decide) rfl (cI _ my_X1_emit lm_X2_209 (by omega)) vs_X1_emit rfl (fun u hu => sX1_emit _ _ _ _ _ _ hu) (fun e => ite_ne (by unfold mX1_emit at e; exact e)) (Nat.zero_le _) rfl (fun h11 => ?_)
            refine j_iinc (q := 60) (l2 := [(0, vR x.2.2.2 x0), (1, .int x1)]) hx (dc kX2_readEither_0 31 rfl) 2 rfl (v := (1 : Int32)) (by decide) (hn 2 (by decide)) [0, 1] rfl ⟨⟨show (0 : Nat) ≠ 2 by decide, Or.inl (show (0 : Nat) + 1 ≠ 2 by decide)⟩, ⟨⟨show (1 : Nat) ≠ 2 by decide, Or.inr rfl⟩, trivial⟩⟩ rfl ?_
            refine j_goto (q := 12) hx (dc kX2_readEither_0 32 rfl) (by decide) ?_
            exact j_back [1, 2, 0] ((x2 + (1 : Int32)), h11) rfl rfl
          · refine j_exit ?_
            refine j_iconst (q := 47) (v := (0 : Int32)) hx (dc kX2_readEither_0 25 rfl) (by decide) rfl ?_
            exact r_cW hx (Or.inl rfl) hR (dc kX2_readEither_0 26 rfl)
    exact j_loop (S := (Int32 × Hp)) (lvf := fun s => [(0, vR x.2.2.2 x0), (1, .int x1), (2, .int s.1)]) (hpf := fun s => s.2) (f := (fun s : (Int32 × Hp) => mX2_readEither_l12f g x0 x1 s.1 s.2)) (fun s => hB s.1 s.2) (x2, h)
  unfold mX2_readEither_F
  refine J.ckd fun hck => ?_
  refine j_aload_n (q := 1) hx (dc kX2_readEither_0 0 rfl) rfl 0 rfl rfl ?_
  refine j_iload_n (q := 2) hx (dc kX2_readEither_0 1 rfl) rfl 1 rfl rfl ?_
  refine w_cVIW (q := 5) (As := [.int x1]) (st := []) hx (dc kX2_readEither_0 2 rfl) cf2 (by decide) rfl (cI _ my_X2_readEvery lm_X2_206 (by omega)) vs_X2_readEvery rfl (fun u hu => hg1 _ _ _ _ _ _ hu) (hk1 _ _ _) (Nat.zero_le _) rfl (fun v1 h2 => ?_)
  refine j_if_neS (q := 8) (tgt := 10) hx (dc kX2_readEither_0 3 rfl) (by decide) rfl ?_ ?_
  · refine j_iconst (q := 11) (v := (0 : Int32)) hx (dc kX2_readEither_0 6 rfl) (by decide) rfl ?_
    refine j_istore_n (q := 12) (i := 2) (l2 := [(0, vR x.2.2.2 x0), (1, .int x1)]) hx (dc kX2_readEither_0 7 rfl) rfl (hn 2 (by decide)) [0, 1] rfl ⟨⟨show (0 : Nat) ≠ 2 by decide, Or.inl (show (0 : Nat) + 1 ≠ 2 by decide)⟩, ⟨⟨show (1 : Nat) ≠ 2 by decide, Or.inr rfl⟩, trivial⟩⟩ rfl ?_
    exact j_sub [1, 2, 0] rfl (hb12 x0 x1 (0 : Int32) h2)
  · refine j_iconst (q := 9) (v := (0 : Int32)) hx (dc kX2_readEither_0 4 rfl) (by decide) rfl ?_
    exact r_cW hx (Or.inl rfl) hR (dc kX2_readEither_0 5 rfl)
set_option maxHeartbeats 4000000 in
set_option maxRecDepth 100000 in
theorem sX2_readEvery_F (d : Nat) (hd : 2 ≤ d) (g : GTX2_readEither) (hg0 : ∀ (l : Launch) (w : Wd) (x0 : Nat) (x1 : Int32) (h : Hp) (u : (Int32 × Hp)), g.1 x0 x1 h = some u → M1 l w mi_X2_readEither d [vR w x0, .int x1] h u.2 (some (.int u.1))) (hk0 : ∀ (x0 : Nat) (x1 : Int32) (h : Hp), g.1 x0 x1 h ≠ none → (hpS h x0).1 = 3) (hg1 : ∀ (l : Launch) (w : Wd) (x0 : Nat) (x1 : Int32) (h : Hp) (u : (Int32 × Hp)), g.2.1 x0 x1 h = some u → M1 l w mi_X2_readEvery d [vR w x0, .int x1] h u.2 (some (.int u.1))) (hk1 : ∀ (x0 : Nat) (x1 : Int32) (h : Hp), g.2.1 x0 x1 h ≠ none → (hpS h x0).1 = 3) (hg2 : ∀ (l : Launch) (w : Wd) (x0 : Nat) (x1 : Int32) (h : Hp) (u : (Int32 × Hp)), g.2.2.1 x0 x1 h = some u → M1 l w mi_X2_readOne d [vR w x0, .int x1] h u.2 (some (.int u.1))) (hk2 : ∀ (x0 : Nat) (x1 : Int32) (h : Hp), g.2.2.1 x0 x1 h ≠ none → (hpS h x0).1 = 3) (hg3 : ∀ (l : Launch) (w : Wd) (x0 : Nat) (x1 : Int32) (h : Hp) (u : (Int32 × Hp)), g.2.2.2 x0 x1 h = some u → M1 l w mi_X2_readSeveral d [vR w x0, .int x1] h u.2 (some (.int u.1))) (hk3 : ∀ (x0 : Nat) (x1 : Int32) (h : Hp), g.2.2.2 x0 x1 h ≠ none → (hpS h x0).1 = 3) (l : Launch) (w : Wd) (x0 : Nat) (x1 : Int32) (h : Hp) (u : (Int32 × Hp)) (hK : mX2_readEvery_F g x0 x1 h = some u) : M1 l w mi_X2_readEvery (d + 1) [vR w x0, .int x1] h u.2 (some (.int u.1)) := by
  refine M1.of (own := RX2) (T := fun _ r => r = u) hK (by decide +kernel) rfl (by first | (simp only [lg_lenR, lg_lenI, lg_lenL, lg_len0]; decide) | decide) (fun x hx hnl hhf hl hw hret hnm hQ h0e => ⟨?_, rfl⟩)
  subst hw
  subst hl
  have hR : Rt x h u.2 (some (.int u.1)) ((some .boolean)) := ⟨h0e, hhf, hret, hQ⟩
  have hn : ∀ i, i < 3 → i < x.2.2.1.1.1 := fun i hi => by rw [hnl]; exact hi
  have e0 : lv_args 0 [vR x.2.2.2 x0, .int x1] = [(0, vR x.2.2.2 x0), (1, .int x1)] := by simp only [lv_argsR, lv_argsI, lv_argsL, lv_args0]
  rw [e0]
  have hb12 : ∀ (x0 : Nat) (x1 : Int32) (x2 : Int32) (h : Hp), J x 12 [(0, vR x.2.2.2 x0), (1, .int x1), (2, .int x2)] [] h (mX2_readEvery_l12 g x0 x1 x2 h) (fun r => r = u) := by
    intro x0 x1 x2 h
    have hB : ∀ (x2 : Int32) (h : Hp), J x 12 [(0, vR x.2.2.2 x0), (1, .int x1), (2, .int x2)] [] h (mX2_readEvery_l12f g x0 x1 x2 h) (TLo (S := (Int32 × Hp)) x 12 (fun s => [(0, vR x.2.2.2 x0), (1, .int x1), (2, .int s.1)]) [] (fun s => s.2) (fun r => r = u)) := by
      intro x2 h
      unfold mX2_readEvery_l12f
      refine j_iload_n (q := 13) hx (dc kX2_readEvery_0 8 rfl) rfl 2 rfl rfl ?_
      refine j_sipush (q := 16) (v := (480 : Int32)) hx (dc kX2_readEvery_0 9 rfl) (by decide) rfl ?_
      refine j_icmp_geS (q := 19) (tgt := 63) hx (dc kX2_readEvery_0 10 rfl) (by decide) rfl ?_ ?_
      · refine j_exit ?_
        refine j_iconst (q := 64) (v := (1 : Int32)) hx (dc kX2_readEvery_0 33 rfl) (by decide) rfl ?_
        exact r_cW hx (Or.inr rfl) hR (dc kX2_readEvery_0 34 rfl)
      · refine j_aload_n (q := 20) hx (dc kX2_readEvery_0 11 rfl) rfl 0 rfl rfl ?_
        refine w_cVIR (q := 23) (As := []) (st := []) hx (dc kX2_readEvery_0 12 rfl) cf2 (by decide) rfl (cI _ my_X2_nextKind lm_X2_46 (by omega)) vs_X2_nextKind rfl (fun u hu => sX2_nextKind _ _ _ _ _ hu) (fun e => ite_ne (by unfold mX2_nextKind at e; exact e)) (Nat.zero_le _) rfl (fun v3 => ?_)
        refine j_bipush (q := 25) (v := (38 : Int32)) hx (dc kX2_readEvery_0 13 rfl) (by decide) rfl ?_
        refine j_icmp_neS (q := 28) (tgt := 63) hx (dc kX2_readEvery_0 14 rfl) (by decide) rfl ?_ ?_
        · refine j_exit ?_
          refine j_iconst (q := 64) (v := (1 : Int32)) hx (dc kX2_readEvery_0 33 rfl) (by decide) rfl ?_
          exact r_cW hx (Or.inr rfl) hR (dc kX2_readEvery_0 34 rfl)
        · refine j_aload_n (q := 29) hx (dc kX2_readEvery_0 15 rfl) rfl 0 rfl rfl ?_
          refine j_dup (q := 30) hx (dc kX2_readEvery_0 16 rfl) (vR_cat _ _) rfl ?_
          refine w_gI (q := 33) hx (dc kX2_readEvery_0 17 rfl) ff_X2_5 lk_X2_65 rfl (fun v5 => ?_)
          refine j_iconst (q := 34) (v := (1 : Int32)) hx (dc kX2_readEvery_0 18 rfl) (by decide) rfl ?_
          refine j_iadd (q := 35) hx (dc kX2_readEvery_0 19 rfl) rfl ?_
          refine w_sI (q := 38) hx (dc kX2_readEvery_0 20 rfl) ff_X2_5 rfl lk_X2_65 (Or.inl rfl) rfl (fun h6 => ?_)
          refine j_aload_n (q := 39) hx (dc kX2_readEvery_0 21 rfl) rfl 0 rfl rfl ?_
          refine j_iload_n (q := 40) hx (dc kX2_readEvery_0 22 rfl) rfl 1 rfl rfl ?_
          refine w_cVIW (q := 43) (As := [.int x1]) (st := []) hx (dc kX2_readEvery_0 23 rfl) cf2 (by decide) rfl (cI _ my_X2_readOne lm_X2_213 (by omega)) vs_X2_readOne rfl (fun u hu => hg2 _ _ _ _ _ _ hu) (hk2 _ _ _) (Nat.zero_le _) rfl (fun v7 h8 => ?_)
          refine j_if_neS (q := 46) (tgt := 48) hx (dc kX2_readEvery_0 24 rfl) (by decide) rfl ?_ ?_
          · refine j_aload_n (q := 49) hx (dc kX2_readEvery_0 27 rfl) rfl 0 rfl rfl ?_
            refine w_gR (q := 52) hx (dc kX2_readEvery_0 28 rfl) ff_X2_3 lk_X2_26 rfl (fun v9 => ?_)
            refine j_bipush (q := 54) (v := (9 : Int32)) hx (dc kX2_readEvery_0 29 rfl) (by decide) rfl ?_
            refine w_cVVW (q := 57) (As := [.int (9 : Int32)]) (st := []) hx (dc kX2_readEvery_0 30 rfl) cf1 (by decide) rfl (cI _ my_X1_emit lm_X2_209 (by omega)) vs_X1_emit rfl (fun u hu => sX1_emit _ _ _ _ _ _ hu) (fun e => ite_ne (by unfold mX1_emit at e; exact e)) (Nat.zero_le _) rfl (fun h11 => ?_)
            refine j_iinc (q := 60) (l2 := [(0, vR x.2.2.2 x0), (1, .int x1)]) hx (dc kX2_readEvery_0 31 rfl) 2 rfl (v := (1 : Int32)) (by decide) (hn 2 (by decide)) [0, 1] rfl ⟨⟨show (0 : Nat) ≠ 2 by decide, Or.inl (show (0 : Nat) + 1 ≠ 2 by decide)⟩, ⟨⟨show (1 : Nat) ≠ 2 by decide, Or.inr rfl⟩, trivial⟩⟩ rfl ?_
            refine j_goto (q := 12) hx (dc kX2_readEvery_0 32 rfl) (by decide) ?_
            exact j_back [1, 2, 0] ((x2 + (1 : Int32)), h11) rfl rfl
          · refine j_exit ?_
            refine j_iconst (q := 47) (v := (0 : Int32)) hx (dc kX2_readEvery_0 25 rfl) (by decide) rfl ?_
            exact r_cW hx (Or.inl rfl) hR (dc kX2_readEvery_0 26 rfl)
    exact j_loop (S := (Int32 × Hp)) (lvf := fun s => [(0, vR x.2.2.2 x0), (1, .int x1), (2, .int s.1)]) (hpf := fun s => s.2) (f := (fun s : (Int32 × Hp) => mX2_readEvery_l12f g x0 x1 s.1 s.2)) (fun s => hB s.1 s.2) (x2, h)
  unfold mX2_readEvery_F
  refine J.ckd fun hck => ?_
  refine j_aload_n (q := 1) hx (dc kX2_readEvery_0 0 rfl) rfl 0 rfl rfl ?_
  refine j_iload_n (q := 2) hx (dc kX2_readEvery_0 1 rfl) rfl 1 rfl rfl ?_
  refine w_cVIW (q := 5) (As := [.int x1]) (st := []) hx (dc kX2_readEvery_0 2 rfl) cf2 (by decide) rfl (cI _ my_X2_readOne lm_X2_213 (by omega)) vs_X2_readOne rfl (fun u hu => hg2 _ _ _ _ _ _ hu) (hk2 _ _ _) (Nat.zero_le _) rfl (fun v1 h2 => ?_)
  refine j_if_neS (q := 8) (tgt := 10) hx (dc kX2_readEvery_0 3 rfl) (by decide) rfl ?_ ?_
  · refine j_iconst (q := 11) (v := (0 : Int32)) hx (dc kX2_readEvery_0 6 rfl) (by decide) rfl ?_
    refine j_istore_n (q := 12) (i := 2) (l2 := [(0, vR x.2.2.2 x0), (1, .int x1)]) hx (dc kX2_readEvery_0 7 rfl) rfl (hn 2 (by decide)) [0, 1] rfl ⟨⟨show (0 : Nat) ≠ 2 by decide, Or.inl (show (0 : Nat) + 1 ≠ 2 by decide)⟩, ⟨⟨show (1 : Nat) ≠ 2 by decide, Or.inr rfl⟩, trivial⟩⟩ rfl ?_
    exact j_sub [1, 2, 0] rfl (hb12 x0 x1 (0 : Int32) h2)
  · refine j_iconst (q := 9) (v := (0 : Int32)) hx (dc kX2_readEvery_0 4 rfl) (by decide) rfl ?_
    exact r_cW hx (Or.inl rfl) hR (dc kX2_readEvery_0 5 rfl)
set_option maxHeartbeats 4000000 in
set_option maxRecDepth 100000 in
theorem sX2_readOne_F (d : Nat) (hd : 2 ≤ d) (g : GTX2_readEither) (hg0 : ∀ (l : Launch) (w : Wd) (x0 : Nat) (x1 : Int32) (h : Hp) (u : (Int32 × Hp)), g.1 x0 x1 h = some u → M1 l w mi_X2_readEither d [vR w x0, .int x1] h u.2 (some (.int u.1))) (hk0 : ∀ (x0 : Nat) (x1 : Int32) (h : Hp), g.1 x0 x1 h ≠ none → (hpS h x0).1 = 3) (hg1 : ∀ (l : Launch) (w : Wd) (x0 : Nat) (x1 : Int32) (h : Hp) (u : (Int32 × Hp)), g.2.1 x0 x1 h = some u → M1 l w mi_X2_readEvery d [vR w x0, .int x1] h u.2 (some (.int u.1))) (hk1 : ∀ (x0 : Nat) (x1 : Int32) (h : Hp), g.2.1 x0 x1 h ≠ none → (hpS h x0).1 = 3) (hg2 : ∀ (l : Launch) (w : Wd) (x0 : Nat) (x1 : Int32) (h : Hp) (u : (Int32 × Hp)), g.2.2.1 x0 x1 h = some u → M1 l w mi_X2_readOne d [vR w x0, .int x1] h u.2 (some (.int u.1))) (hk2 : ∀ (x0 : Nat) (x1 : Int32) (h : Hp), g.2.2.1 x0 x1 h ≠ none → (hpS h x0).1 = 3) (hg3 : ∀ (l : Launch) (w : Wd) (x0 : Nat) (x1 : Int32) (h : Hp) (u : (Int32 × Hp)), g.2.2.2 x0 x1 h = some u → M1 l w mi_X2_readSeveral d [vR w x0, .int x1] h u.2 (some (.int u.1))) (hk3 : ∀ (x0 : Nat) (x1 : Int32) (h : Hp), g.2.2.2 x0 x1 h ≠ none → (hpS h x0).1 = 3) (l : Launch) (w : Wd) (x0 : Nat) (x1 : Int32) (h : Hp) (u : (Int32 × Hp)) (hK : mX2_readOne_F g x0 x1 h = some u) : M1 l w mi_X2_readOne (d + 1) [vR w x0, .int x1] h u.2 (some (.int u.1)) := by
  refine M1.of (own := RX2) (T := fun _ r => r = u) hK (by decide +kernel) rfl (by first | (simp only [lg_lenR, lg_lenI, lg_lenL, lg_len0]; decide) | decide) (fun x hx hnl hhf hl hw hret hnm hQ h0e => ⟨?_, rfl⟩)
  subst hw
  subst hl
  have hR : Rt x h u.2 (some (.int u.1)) ((some .boolean)) := ⟨h0e, hhf, hret, hQ⟩
  have hn : ∀ i, i < 3 → i < x.2.2.1.1.1 := fun i hi => by rw [hnl]; exact hi
  have e0 : lv_args 0 [vR x.2.2.2 x0, .int x1] = [(0, vR x.2.2.2 x0), (1, .int x1)] := by simp only [lv_argsR, lv_argsI, lv_argsL, lv_args0]
  rw [e0]
  have hb50 : ∀ (x0 : Nat) (x1 : Int32) (x2 : Int32) (h : Hp), J x 50 [(0, vR x.2.2.2 x0), (1, .int x1), (2, .int x2)] [] h (mX2_readOne_b50 g x0 x1 x2 h) (fun r => r = u) := by
    intro x0 x1 x2 h
    unfold mX2_readOne_b50
    refine j_iload_n (q := 51) hx (dc kX2_readOne_0 28 rfl) rfl 1 rfl rfl ?_
    refine j_iconst (q := 52) (v := (5 : Int32)) hx (dc kX2_readOne_0 29 rfl) (by decide) rfl ?_
    refine j_icmp_lt (q := 55) (tgt := 61) hx (dc kX2_readOne_0 30 rfl) (by decide) Iff.rfl rfl ?_ ?_
    · refine j_aload_n (q := 62) hx (dc kX2_readOne_0 35 rfl) rfl 0 rfl rfl ?_
      refine j_dup (q := 63) hx (dc kX2_readOne_0 36 rfl) (vR_cat _ _) rfl ?_
      refine w_gI (q := 66) hx (dc kX2_readOne_0 37 rfl) ff_X2_5 lk_X2_65 rfl (fun v3 => ?_)
      refine j_iconst (q := 67) (v := (1 : Int32)) hx (dc kX2_readOne_0 38 rfl) (by decide) rfl ?_
      refine j_iadd (q := 68) hx (dc kX2_readOne_0 39 rfl) rfl ?_
      refine w_sI (q := 71) hx (dc kX2_readOne_0 40 rfl) ff_X2_5 rfl lk_X2_65 (Or.inl rfl) rfl (fun h4 => ?_)
      refine j_iload_n (q := 72) hx (dc kX2_readOne_0 41 rfl) rfl 2 rfl rfl ?_
      refine j_bipush (q := 74) (v := (40 : Int32)) hx (dc kX2_readOne_0 42 rfl) (by decide) rfl ?_
      refine j_icmp_neS (q := 77) (tgt := 102) hx (dc kX2_readOne_0 43 rfl) (by decide) rfl ?_ ?_
      · refine j_aload_n (q := 103) hx (dc kX2_readOne_0 58 rfl) rfl 0 rfl rfl ?_
        refine j_iload_n (q := 104) hx (dc kX2_readOne_0 59 rfl) rfl 1 rfl rfl ?_
        refine j_iconst (q := 105) (v := (1 : Int32)) hx (dc kX2_readOne_0 60 rfl) (by decide) rfl ?_
        refine j_iadd (q := 106) hx (dc kX2_readOne_0 61 rfl) rfl ?_
        refine w_cVIW (q := 109) (As := [.int (x1 + (1 : Int32))]) (st := []) hx (dc kX2_readOne_0 62 rfl) cf2 (by decide) rfl (cI _ my_X2_readOne lm_X2_213 (by omega)) vs_X2_readOne rfl (fun u hu => hg2 _ _ _ _ _ _ hu) (hk2 _ _ _) (Nat.zero_le _) rfl (fun v5 h6 => ?_)
        refine j_if_neS (q := 112) (tgt := 114) hx (dc kX2_readOne_0 63 rfl) (by decide) rfl ?_ ?_
        · refine j_aload_n (q := 115) hx (dc kX2_readOne_1 2 rfl) rfl 0 rfl rfl ?_
          refine w_gR (q := 118) hx (dc kX2_readOne_1 3 rfl) ff_X2_3 lk_X2_26 rfl (fun v7 => ?_)
          refine j_bipush (q := 120) (v := (8 : Int32)) hx (dc kX2_readOne_1 4 rfl) (by decide) rfl ?_
          refine w_cVVW (q := 123) (As := [.int (8 : Int32)]) (st := []) hx (dc kX2_readOne_1 5 rfl) cf1 (by decide) rfl (cI _ my_X1_emit lm_X2_209 (by omega)) vs_X1_emit rfl (fun u hu => sX1_emit _ _ _ _ _ _ hu) (fun e => ite_ne (by unfold mX1_emit at e; exact e)) (Nat.zero_le _) rfl (fun h9 => ?_)
          refine j_iconst (q := 124) (v := (1 : Int32)) hx (dc kX2_readOne_1 6 rfl) (by decide) rfl ?_
          exact r_cW hx (Or.inr rfl) hR (dc kX2_readOne_1 7 rfl)
        · refine j_iconst (q := 113) (v := (0 : Int32)) hx (dc kX2_readOne_1 0 rfl) (by decide) rfl ?_
          exact r_cW hx (Or.inl rfl) hR (dc kX2_readOne_1 1 rfl)
      · refine j_aload_n (q := 78) hx (dc kX2_readOne_0 44 rfl) rfl 0 rfl rfl ?_
        refine j_iload_n (q := 79) hx (dc kX2_readOne_0 45 rfl) rfl 1 rfl rfl ?_
        refine j_iconst (q := 80) (v := (1 : Int32)) hx (dc kX2_readOne_0 46 rfl) (by decide) rfl ?_
        refine j_iadd (q := 81) hx (dc kX2_readOne_0 47 rfl) rfl ?_
        refine w_cVIW (q := 84) (As := [.int (x1 + (1 : Int32))]) (st := []) hx (dc kX2_readOne_0 48 rfl) cf2 (by decide) rfl (cI _ my_X2_readEither lm_X2_58 (by omega)) vs_X2_readEither rfl (fun u hu => hg0 _ _ _ _ _ _ hu) (hk0 _ _ _) (Nat.zero_le _) rfl (fun v10 h11 => ?_)
        refine j_if_eq (q := 87) (tgt := 100) hx (dc kX2_readOne_0 49 rfl) (by decide) Iff.rfl rfl ?_ ?_
        · refine j_iconst (q := 101) (v := (0 : Int32)) hx (dc kX2_readOne_0 56 rfl) (by decide) rfl ?_
          exact r_cW hx (Or.inl rfl) hR (dc kX2_readOne_0 57 rfl)
        · refine j_aload_n (q := 88) hx (dc kX2_readOne_0 50 rfl) rfl 0 rfl rfl ?_
          refine j_bipush (q := 90) (v := (41 : Int32)) hx (dc kX2_readOne_0 51 rfl) (by decide) rfl ?_
          refine w_cVIW (q := 93) (As := [.int (41 : Int32)]) (st := []) hx (dc kX2_readOne_0 52 rfl) cf2 (by decide) rfl (cI _ my_X2_expect lm_X2_62 (by omega)) vs_X2_expect rfl (fun u hu => sX2_expect _ _ _ _ _ _ hu) (fun e => ite_ne (by unfold mX2_expect at e; exact e)) (Nat.zero_le _) rfl (fun v12 h13 => ?_)
          refine j_if_eq (q := 96) (tgt := 100) hx (dc kX2_readOne_0 53 rfl) (by decide) Iff.rfl rfl ?_ ?_
          · refine j_iconst (q := 101) (v := (0 : Int32)) hx (dc kX2_readOne_0 56 rfl) (by decide) rfl ?_
            exact r_cW hx (Or.inl rfl) hR (dc kX2_readOne_0 57 rfl)
          · refine j_iconst (q := 97) (v := (1 : Int32)) hx (dc kX2_readOne_0 54 rfl) (by decide) rfl ?_
            refine j_goto (q := 101) hx (dc kX2_readOne_0 55 rfl) (by decide) ?_
            exact r_cW hx (Or.inr rfl) hR (dc kX2_readOne_0 57 rfl)
    · refine j_aload_n (q := 56) hx (dc kX2_readOne_0 31 rfl) rfl 0 rfl rfl ?_
      refine j_iconst (q := 57) (v := (4 : Int32)) hx (dc kX2_readOne_0 32 rfl) (by decide) rfl ?_
      refine w_cVIW (q := 60) (As := [.int (4 : Int32)]) (st := []) hx (dc kX2_readOne_0 33 rfl) cf2 (by decide) rfl (cI _ my_X2_fail lm_X2_92 (by omega)) vs_X2_fail rfl (fun u hu => sX2_fail _ _ _ _ _ _ hu) (fun e => ite_ne (by unfold mX2_fail at e; exact e)) (Nat.zero_le _) rfl (fun v14 h15 => ?_)
      exact r_zW hx hR (dc kX2_readOne_0 34 rfl)
  unfold mX2_readOne_F
  refine J.ckd fun hck => ?_
  refine j_aload_n (q := 1) hx (dc kX2_readOne_0 0 rfl) rfl 0 rfl rfl ?_
  refine w_cVIR (q := 4) (As := []) (st := []) hx (dc kX2_readOne_0 1 rfl) cf2 (by decide) rfl (cI _ my_X2_nextKind lm_X2_46 (by omega)) vs_X2_nextKind rfl (fun u hu => sX2_nextKind _ _ _ _ _ hu) (fun e => ite_ne (by unfold mX2_nextKind at e; exact e)) (Nat.zero_le _) rfl (fun v1 => ?_)
  refine j_istore_n (q := 5) (i := 2) (l2 := [(0, vR x.2.2.2 x0), (1, .int x1)]) hx (dc kX2_readOne_0 2 rfl) rfl (hn 2 (by decide)) [0, 1] rfl ⟨⟨show (0 : Nat) ≠ 2 by decide, Or.inl (show (0 : Nat) + 1 ≠ 2 by decide)⟩, ⟨⟨show (1 : Nat) ≠ 2 by decide, Or.inr rfl⟩, trivial⟩⟩ rfl ?_
  refine j_iload_n (q := 6) hx (dc kX2_readOne_0 3 rfl) rfl 0 rfl rfl ?_
  refine j_iconst (q := 7) (v := (3 : Int32)) hx (dc kX2_readOne_0 4 rfl) (by decide) rfl ?_
  refine j_icmp_neS (q := 10) (tgt := 16) hx (dc kX2_readOne_0 5 rfl) (by decide) rfl ?_ ?_
  · refine j_iload_n (q := 17) hx (dc kX2_readOne_0 10 rfl) rfl 0 rfl rfl ?_
    refine j_bipush (q := 19) (v := (33 : Int32)) hx (dc kX2_readOne_0 11 rfl) (by decide) rfl ?_
    refine j_icmp_eq (q := 22) (tgt := 50) hx (dc kX2_readOne_0 12 rfl) (by decide) Iff.rfl rfl ?_ ?_
    · exact j_sub [1, 2, 0] rfl (hb50 x0 x1 v1 h)
    · refine j_iload_n (q := 23) hx (dc kX2_readOne_0 13 rfl) rfl 0 rfl rfl ?_
      refine j_bipush (q := 25) (v := (40 : Int32)) hx (dc kX2_readOne_0 14 rfl) (by decide) rfl ?_
      refine j_icmp_eq (q := 28) (tgt := 50) hx (dc kX2_readOne_0 15 rfl) (by decide) Iff.rfl rfl ?_ ?_
      · exact j_sub [1, 2, 0] rfl (hb50 x0 x1 v1 h)
      · refine j_aload_n (q := 29) hx (dc kX2_readOne_0 16 rfl) rfl 1 rfl rfl ?_
        refine w_cVIW (q := 32) (As := []) (st := []) hx (dc kX2_readOne_0 17 rfl) cf2 (by decide) rfl (cI _ my_X2_knownFact lm_X2_173 (by omega)) vs_X2_knownFact rfl (fun u hu => sX2_knownFact _ _ _ _ _ hu) (fun e => ite_ne (by unfold mX2_knownFact at e; exact e)) (Nat.zero_le _) rfl (fun v16 h17 => ?_)
        refine j_if_neS (q := 35) (tgt := 37) hx (dc kX2_readOne_0 18 rfl) (by decide) rfl ?_ ?_
        · refine j_aload_n (q := 38) hx (dc kX2_readOne_0 21 rfl) rfl 1 rfl rfl ?_
          refine w_gR (q := 41) hx (dc kX2_readOne_0 22 rfl) ff_X2_3 lk_X2_26 rfl (fun v18 => ?_)
          refine j_aload_n (q := 42) hx (dc kX2_readOne_0 23 rfl) rfl 1 rfl rfl ?_
          refine w_gI (q := 45) hx (dc kX2_readOne_0 24 rfl) ff_X2_6 lk_X2_101 rfl (fun v19 => ?_)
          refine w_cVVW (q := 48) (As := [.int v19]) (st := []) hx (dc kX2_readOne_0 25 rfl) cf1 (by decide) rfl (cI _ my_X1_emit lm_X2_209 (by omega)) vs_X1_emit rfl (fun u hu => sX1_emit _ _ _ _ _ _ hu) (fun e => ite_ne (by unfold mX1_emit at e; exact e)) (Nat.zero_le _) rfl (fun h21 => ?_)
          refine j_iconst (q := 49) (v := (1 : Int32)) hx (dc kX2_readOne_0 26 rfl) (by decide) rfl ?_
          exact r_cW hx (Or.inr rfl) hR (dc kX2_readOne_0 27 rfl)
        · refine j_iconst (q := 36) (v := (0 : Int32)) hx (dc kX2_readOne_0 19 rfl) (by decide) rfl ?_
          exact r_cW hx (Or.inl rfl) hR (dc kX2_readOne_0 20 rfl)
  · refine j_aload_n (q := 11) hx (dc kX2_readOne_0 6 rfl) rfl 1 rfl rfl ?_
    refine j_iload_n (q := 12) hx (dc kX2_readOne_0 7 rfl) rfl 2 rfl rfl ?_
    refine w_cVIW (q := 15) (As := [.int x1]) (st := []) hx (dc kX2_readOne_0 8 rfl) cf2 (by decide) rfl (cI _ my_X2_readSeveral lm_X2_216 (by omega)) vs_X2_readSeveral rfl (fun u hu => hg3 _ _ _ _ _ _ hu) (hk3 _ _ _) (Nat.zero_le _) rfl (fun v22 h23 => ?_)
    exact r_zW hx hR (dc kX2_readOne_0 9 rfl)
set_option maxHeartbeats 4000000 in
set_option maxRecDepth 100000 in
theorem sX2_readSeveral_F (d : Nat) (hd : 2 ≤ d) (g : GTX2_readEither) (hg0 : ∀ (l : Launch) (w : Wd) (x0 : Nat) (x1 : Int32) (h : Hp) (u : (Int32 × Hp)), g.1 x0 x1 h = some u → M1 l w mi_X2_readEither d [vR w x0, .int x1] h u.2 (some (.int u.1))) (hk0 : ∀ (x0 : Nat) (x1 : Int32) (h : Hp), g.1 x0 x1 h ≠ none → (hpS h x0).1 = 3) (hg1 : ∀ (l : Launch) (w : Wd) (x0 : Nat) (x1 : Int32) (h : Hp) (u : (Int32 × Hp)), g.2.1 x0 x1 h = some u → M1 l w mi_X2_readEvery d [vR w x0, .int x1] h u.2 (some (.int u.1))) (hk1 : ∀ (x0 : Nat) (x1 : Int32) (h : Hp), g.2.1 x0 x1 h ≠ none → (hpS h x0).1 = 3) (hg2 : ∀ (l : Launch) (w : Wd) (x0 : Nat) (x1 : Int32) (h : Hp) (u : (Int32 × Hp)), g.2.2.1 x0 x1 h = some u → M1 l w mi_X2_readOne d [vR w x0, .int x1] h u.2 (some (.int u.1))) (hk2 : ∀ (x0 : Nat) (x1 : Int32) (h : Hp), g.2.2.1 x0 x1 h ≠ none → (hpS h x0).1 = 3) (hg3 : ∀ (l : Launch) (w : Wd) (x0 : Nat) (x1 : Int32) (h : Hp) (u : (Int32 × Hp)), g.2.2.2 x0 x1 h = some u → M1 l w mi_X2_readSeveral d [vR w x0, .int x1] h u.2 (some (.int u.1))) (hk3 : ∀ (x0 : Nat) (x1 : Int32) (h : Hp), g.2.2.2 x0 x1 h ≠ none → (hpS h x0).1 = 3) (l : Launch) (w : Wd) (x0 : Nat) (x1 : Int32) (h : Hp) (u : (Int32 × Hp)) (hK : mX2_readSeveral_F g x0 x1 h = some u) : M1 l w mi_X2_readSeveral (d + 1) [vR w x0, .int x1] h u.2 (some (.int u.1)) := by
  refine M1.of (own := RX2) (T := fun _ r => r = u) hK (by decide +kernel) rfl (by first | (simp only [lg_lenR, lg_lenI, lg_lenL, lg_len0]; decide) | decide) (fun x hx hnl hhf hl hw hret hnm hQ h0e => ⟨?_, rfl⟩)
  subst hw
  subst hl
  have hR : Rt x h u.2 (some (.int u.1)) ((some .boolean)) := ⟨h0e, hhf, hret, hQ⟩
  have hn : ∀ i, i < 4 → i < x.2.2.1.1.1 := fun i hi => by rw [hnl]; exact hi
  have e0 : lv_args 0 [vR x.2.2.2 x0, .int x1] = [(0, vR x.2.2.2 x0), (1, .int x1)] := by simp only [lv_argsR, lv_argsI, lv_argsL, lv_args0]
  rw [e0]
  have hb62 : ∀ (x0 : Nat) (x1 : Int32) (x2 : Int32) (x3 : Int32) (h : Hp), J x 62 [(0, vR x.2.2.2 x0), (1, .int x1), (2, .int x2), (3, .int x3)] [] h (mX2_readSeveral_l62 g x0 x1 x2 x3 h) (fun r => r = u) := by
    intro x0 x1 x2 x3 h
    have hB : ∀ (x3 : Int32) (h : Hp), J x 62 [(0, vR x.2.2.2 x0), (1, .int x1), (2, .int x2), (3, .int x3)] [] h (mX2_readSeveral_l62f g x0 x1 x2 x3 h) (TLo (S := (Int32 × Hp)) x 62 (fun s => [(0, vR x.2.2.2 x0), (1, .int x1), (2, .int x2), (3, .int s.1)]) [] (fun s => s.2) (fun r => r = u)) := by
      intro x3 h
      unfold mX2_readSeveral_l62f
      refine j_iload_n (q := 63) hx (dc kX2_readSeveral_0 35 rfl) rfl 3 rfl rfl ?_
      refine j_bipush (q := 65) (v := (6 : Int32)) hx (dc kX2_readSeveral_0 36 rfl) (by decide) rfl ?_
      refine j_icmp_gt (q := 68) (tgt := 134) hx (dc kX2_readSeveral_0 37 rfl) (by decide) Iff.rfl rfl ?_ ?_
      · refine j_exit ?_
        refine j_aload_n (q := 135) hx (dc kX2_readSeveral_1 12 rfl) rfl 0 rfl rfl ?_
        refine j_aload_n (q := 136) hx (dc kX2_readSeveral_1 13 rfl) rfl 0 rfl rfl ?_
        refine w_cVIR (q := 139) (As := []) (st := [vR x.2.2.2 x0]) hx (dc kX2_readSeveral_1 14 rfl) cf2 (by decide) rfl (cI _ my_X2_seventhFault lm_X2_219 (by omega)) vs_X2_seventhFault rfl (fun u hu => sX2_seventhFault _ _ _ _ _ hu) (fun e => ite_ne (by unfold mX2_seventhFault at e; exact e)) (sum_le (sum_R sum_nil) (by decide)) rfl (fun v10 => ?_)
        refine w_cVIW (q := 142) (As := [.int v10]) (st := []) hx (dc kX2_readSeveral_1 15 rfl) cf2 (by decide) rfl (cI _ my_X2_fail lm_X2_92 (by omega)) vs_X2_fail rfl (fun u hu => sX2_fail _ _ _ _ _ _ hu) (fun e => ite_ne (by unfold mX2_fail at e; exact e)) (Nat.zero_le _) rfl (fun v12 h13 => ?_)
        exact r_zW hx hR (dc kX2_readSeveral_1 16 rfl)
      · refine j_aload_n (q := 69) hx (dc kX2_readSeveral_0 38 rfl) rfl 0 rfl rfl ?_
        refine j_iload_n (q := 70) hx (dc kX2_readSeveral_0 39 rfl) rfl 1 rfl rfl ?_
        refine j_iconst (q := 71) (v := (1 : Int32)) hx (dc kX2_readSeveral_0 40 rfl) (by decide) rfl ?_
        refine j_iadd (q := 72) hx (dc kX2_readSeveral_0 41 rfl) rfl ?_
        refine w_cVIW (q := 75) (As := [.int (x1 + (1 : Int32))]) (st := []) hx (dc kX2_readSeveral_0 42 rfl) cf2 (by decide) rfl (cI _ my_X2_readEither lm_X2_58 (by omega)) vs_X2_readEither rfl (fun u hu => hg0 _ _ _ _ _ _ hu) (hk0 _ _ _) (Nat.zero_le _) rfl (fun v14 h15 => ?_)
        refine j_if_neS (q := 78) (tgt := 80) hx (dc kX2_readSeveral_0 43 rfl) (by decide) rfl ?_ ?_
        · refine j_aload_n (q := 81) hx (dc kX2_readSeveral_0 46 rfl) rfl 0 rfl rfl ?_
          refine w_cVIR (q := 84) (As := []) (st := []) hx (dc kX2_readSeveral_0 47 rfl) cf2 (by decide) rfl (cI _ my_X2_nextKind lm_X2_46 (by omega)) vs_X2_nextKind rfl (fun u hu => sX2_nextKind _ _ _ _ _ hu) (fun e => ite_ne (by unfold mX2_nextKind at e; exact e)) (Nat.zero_le _) rfl (fun v16 => ?_)
          refine j_bipush (q := 86) (v := (41 : Int32)) hx (dc kX2_readSeveral_0 48 rfl) (by decide) rfl ?_
          refine j_icmp_neS (q := 89) (tgt := 117) hx (dc kX2_readSeveral_0 49 rfl) (by decide) rfl ?_ ?_
          · refine j_aload_n (q := 118) hx (dc kX2_readSeveral_1 4 rfl) rfl 0 rfl rfl ?_
            refine j_bipush (q := 120) (v := (44 : Int32)) hx (dc kX2_readSeveral_1 5 rfl) (by decide) rfl ?_
            refine w_cVIW (q := 123) (As := [.int (44 : Int32)]) (st := []) hx (dc kX2_readSeveral_1 6 rfl) cf2 (by decide) rfl (cI _ my_X2_expect lm_X2_62 (by omega)) vs_X2_expect rfl (fun u hu => sX2_expect _ _ _ _ _ _ hu) (fun e => ite_ne (by unfold mX2_expect at e; exact e)) (Nat.zero_le _) rfl (fun v18 h19 => ?_)
            refine j_if_neS (q := 126) (tgt := 128) hx (dc kX2_readSeveral_1 7 rfl) (by decide) rfl ?_ ?_
            · refine j_iinc (q := 131) (l2 := [(0, vR x.2.2.2 x0), (1, .int x1), (2, .int x2)]) hx (dc kX2_readSeveral_1 10 rfl) 3 rfl (v := (1 : Int32)) (by decide) (hn 3 (by decide)) [0, 1, 2] rfl ⟨⟨show (0 : Nat) ≠ 3 by decide, Or.inl (show (0 : Nat) + 1 ≠ 3 by decide)⟩, ⟨⟨show (1 : Nat) ≠ 3 by decide, Or.inl (show (1 : Nat) + 1 ≠ 3 by decide)⟩, ⟨⟨show (2 : Nat) ≠ 3 by decide, Or.inr rfl⟩, trivial⟩⟩⟩ rfl ?_
              refine j_goto (q := 62) hx (dc kX2_readSeveral_1 11 rfl) (by decide) ?_
              exact j_back [1, 2, 3, 0] ((x3 + (1 : Int32)), h19) rfl rfl
            · refine j_exit ?_
              refine j_iconst (q := 127) (v := (0 : Int32)) hx (dc kX2_readSeveral_1 8 rfl) (by decide) rfl ?_
              exact r_cW hx (Or.inl rfl) hR (dc kX2_readSeveral_1 9 rfl)
          · refine j_exit ?_
            refine j_aload_n (q := 90) hx (dc kX2_readSeveral_0 50 rfl) rfl 0 rfl rfl ?_
            refine j_dup (q := 91) hx (dc kX2_readSeveral_0 51 rfl) (vR_cat _ _) rfl ?_
            refine w_gI (q := 94) hx (dc kX2_readSeveral_0 52 rfl) ff_X2_5 lk_X2_65 rfl (fun v20 => ?_)
            refine j_iconst (q := 95) (v := (1 : Int32)) hx (dc kX2_readSeveral_0 53 rfl) (by decide) rfl ?_
            refine j_iadd (q := 96) hx (dc kX2_readSeveral_0 54 rfl) rfl ?_
            refine w_sI (q := 99) hx (dc kX2_readSeveral_0 55 rfl) ff_X2_5 rfl lk_X2_65 (Or.inl rfl) rfl (fun h21 => ?_)
            refine j_aload_n (q := 100) hx (dc kX2_readSeveral_0 56 rfl) rfl 0 rfl rfl ?_
            refine w_gR (q := 103) hx (dc kX2_readSeveral_0 57 rfl) ff_X2_3 lk_X2_26 rfl (fun v22 => ?_)
            refine j_bipush (q := 105) (v := (16 : Int32)) hx (dc kX2_readSeveral_0 58 rfl) (by decide) rfl ?_
            refine j_bipush (q := 107) (v := (8 : Int32)) hx (dc kX2_readSeveral_0 59 rfl) (by decide) rfl ?_
            refine j_iload_n (q := 108) hx (dc kX2_readSeveral_0 60 rfl) rfl 2 rfl rfl ?_
            refine j_imul (q := 109) hx (dc kX2_readSeveral_0 61 rfl) rfl ?_
            refine j_iadd (q := 110) hx (dc kX2_readSeveral_0 62 rfl) rfl ?_
            refine j_iload_n (q := 111) hx (dc kX2_readSeveral_0 63 rfl) rfl 3 rfl rfl ?_
            refine j_iadd (q := 112) hx (dc kX2_readSeveral_1 0 rfl) rfl ?_
            refine w_cVVW (q := 115) (As := [.int (((16 : Int32) + ((8 : Int32) * x2)) + x3)]) (st := []) hx (dc kX2_readSeveral_1 1 rfl) cf1 (by decide) rfl (cI _ my_X1_emit lm_X2_209 (by omega)) vs_X1_emit rfl (fun u hu => sX1_emit _ _ _ _ _ _ hu) (fun e => ite_ne (by unfold mX1_emit at e; exact e)) (Nat.zero_le _) rfl (fun h24 => ?_)
            refine j_iconst (q := 116) (v := (1 : Int32)) hx (dc kX2_readSeveral_1 2 rfl) (by decide) rfl ?_
            exact r_cW hx (Or.inr rfl) hR (dc kX2_readSeveral_1 3 rfl)
        · refine j_exit ?_
          refine j_iconst (q := 79) (v := (0 : Int32)) hx (dc kX2_readSeveral_0 44 rfl) (by decide) rfl ?_
          exact r_cW hx (Or.inl rfl) hR (dc kX2_readSeveral_0 45 rfl)
    exact j_loop (S := (Int32 × Hp)) (lvf := fun s => [(0, vR x.2.2.2 x0), (1, .int x1), (2, .int x2), (3, .int s.1)]) (hpf := fun s => s.2) (f := (fun s : (Int32 × Hp) => mX2_readSeveral_l62f g x0 x1 x2 s.1 s.2)) (fun s => hB s.1 s.2) (x3, h)
  have hb49 : ∀ (x0 : Nat) (x1 : Int32) (x2 : Int32) (h : Hp), J x 49 [(0, vR x.2.2.2 x0), (1, .int x1), (2, .int x2)] [] h (mX2_readSeveral_b49 g x0 x1 x2 h) (fun r => r = u) := by
    intro x0 x1 x2 h
    unfold mX2_readSeveral_b49
    refine j_aload_n (q := 50) hx (dc kX2_readSeveral_0 27 rfl) rfl 0 rfl rfl ?_
    refine j_bipush (q := 52) (v := (40 : Int32)) hx (dc kX2_readSeveral_0 28 rfl) (by decide) rfl ?_
    refine w_cVIW (q := 55) (As := [.int (40 : Int32)]) (st := []) hx (dc kX2_readSeveral_0 29 rfl) cf2 (by decide) rfl (cI _ my_X2_expect lm_X2_62 (by omega)) vs_X2_expect rfl (fun u hu => sX2_expect _ _ _ _ _ _ hu) (fun e => ite_ne (by unfold mX2_expect at e; exact e)) (Nat.zero_le _) rfl (fun v8 h9 => ?_)
    refine j_if_neS (q := 58) (tgt := 60) hx (dc kX2_readSeveral_0 30 rfl) (by decide) rfl ?_ ?_
    · refine j_iconst (q := 61) (v := (1 : Int32)) hx (dc kX2_readSeveral_0 33 rfl) (by decide) rfl ?_
      refine j_istore_n (q := 62) (i := 3) (l2 := [(0, vR x.2.2.2 x0), (1, .int x1), (2, .int x2)]) hx (dc kX2_readSeveral_0 34 rfl) rfl (hn 3 (by decide)) [0, 1, 2] rfl ⟨⟨show (0 : Nat) ≠ 3 by decide, Or.inl (show (0 : Nat) + 1 ≠ 3 by decide)⟩, ⟨⟨show (1 : Nat) ≠ 3 by decide, Or.inl (show (1 : Nat) + 1 ≠ 3 by decide)⟩, ⟨⟨show (2 : Nat) ≠ 3 by decide, Or.inr rfl⟩, trivial⟩⟩⟩ rfl ?_
      exact j_sub [1, 2, 3, 0] rfl (hb62 x0 x1 x2 (1 : Int32) h9)
    · refine j_iconst (q := 59) (v := (0 : Int32)) hx (dc kX2_readSeveral_0 31 rfl) (by decide) rfl ?_
      exact r_cW hx (Or.inl rfl) hR (dc kX2_readSeveral_0 32 rfl)
  unfold mX2_readSeveral_F
  refine J.ckd fun hck => ?_
  refine j_aload_n (q := 1) hx (dc kX2_readSeveral_0 0 rfl) rfl 0 rfl rfl ?_
  refine j_iconst (q := 2) (v := (0 : Int32)) hx (dc kX2_readSeveral_0 1 rfl) (by decide) rfl ?_
  refine j_bipush (q := 4) (v := (6 : Int32)) hx (dc kX2_readSeveral_0 2 rfl) (by decide) rfl ?_
  refine w_cVIW (q := 7) (As := [.int (0 : Int32), .int (6 : Int32)]) (st := []) hx (dc kX2_readSeveral_0 3 rfl) cf2 (by decide) rfl (cI _ my_X2_number lm_X2_104 (by omega)) vs_X2_number rfl (fun u hu => sX2_number _ _ _ _ _ _ _ hu) (fun e => ite_ne (by unfold mX2_number at e; exact e)) (Nat.zero_le _) rfl (fun v1 h2 => ?_)
  refine j_if_neS (q := 10) (tgt := 12) hx (dc kX2_readSeveral_0 4 rfl) (by decide) rfl ?_ ?_
  · refine j_aload_n (q := 13) hx (dc kX2_readSeveral_0 7 rfl) rfl 0 rfl rfl ?_
    refine w_gI (q := 16) hx (dc kX2_readSeveral_0 8 rfl) ff_X2_6 lk_X2_101 rfl (fun v3 => ?_)
    refine j_istore_n (q := 17) (i := 2) (l2 := [(0, vR x.2.2.2 x0), (1, .int x1)]) hx (dc kX2_readSeveral_0 9 rfl) rfl (hn 2 (by decide)) [0, 1] rfl ⟨⟨show (0 : Nat) ≠ 2 by decide, Or.inl (show (0 : Nat) + 1 ≠ 2 by decide)⟩, ⟨⟨show (1 : Nat) ≠ 2 by decide, Or.inr rfl⟩, trivial⟩⟩ rfl ?_
    refine j_aload_n (q := 18) hx (dc kX2_readSeveral_0 10 rfl) rfl 1 rfl rfl ?_
    refine j_sipush (q := 21) (v := (266 : Int32)) hx (dc kX2_readSeveral_0 11 rfl) (by decide) rfl ?_
    refine w_cVIW (q := 24) (As := [.int (266 : Int32)]) (st := []) hx (dc kX2_readSeveral_0 12 rfl) cf2 (by decide) rfl (cI _ my_X2_expect lm_X2_62 (by omega)) vs_X2_expect rfl (fun u hu => sX2_expect _ _ _ _ _ _ hu) (fun e => ite_ne (by unfold mX2_expect at e; exact e)) (Nat.zero_le _) rfl (fun v4 h5 => ?_)
    refine j_if_neS (q := 27) (tgt := 29) hx (dc kX2_readSeveral_0 13 rfl) (by decide) rfl ?_ ?_
    · refine j_aload_n (q := 30) hx (dc kX2_readSeveral_0 16 rfl) rfl 1 rfl rfl ?_
      refine w_cVIR (q := 33) (As := []) (st := []) hx (dc kX2_readSeveral_0 17 rfl) cf2 (by decide) rfl (cI _ my_X2_nextKind lm_X2_46 (by omega)) vs_X2_nextKind rfl (fun u hu => sX2_nextKind _ _ _ _ _ hu) (fun e => ite_ne (by unfold mX2_nextKind at e; exact e)) (Nat.zero_le _) rfl (fun v6 => ?_)
      refine j_bipush (q := 35) (v := (40 : Int32)) hx (dc kX2_readSeveral_0 18 rfl) (by decide) rfl ?_
      refine j_icmp_neS (q := 38) (tgt := 49) hx (dc kX2_readSeveral_0 19 rfl) (by decide) rfl ?_ ?_
      · exact j_sub [1, 2, 0] rfl (hb49 x0 x1 v3 h5)
      · refine j_iload_n (q := 39) hx (dc kX2_readSeveral_0 20 rfl) rfl 2 rfl rfl ?_
        refine j_iconst (q := 40) (v := (5 : Int32)) hx (dc kX2_readSeveral_0 21 rfl) (by decide) rfl ?_
        refine j_icmp_lt (q := 43) (tgt := 49) hx (dc kX2_readSeveral_0 22 rfl) (by decide) Iff.rfl rfl ?_ ?_
        · exact j_sub [1, 2, 0] rfl (hb49 x0 x1 v3 h5)
        · refine j_aload_n (q := 44) hx (dc kX2_readSeveral_0 23 rfl) rfl 1 rfl rfl ?_
          refine j_iconst (q := 45) (v := (4 : Int32)) hx (dc kX2_readSeveral_0 24 rfl) (by decide) rfl ?_
          refine w_cVIW (q := 48) (As := [.int (4 : Int32)]) (st := []) hx (dc kX2_readSeveral_0 25 rfl) cf2 (by decide) rfl (cI _ my_X2_fail lm_X2_92 (by omega)) vs_X2_fail rfl (fun u hu => sX2_fail _ _ _ _ _ _ hu) (fun e => ite_ne (by unfold mX2_fail at e; exact e)) (Nat.zero_le _) rfl (fun v25 h26 => ?_)
          exact r_zW hx hR (dc kX2_readSeveral_0 26 rfl)
    · refine j_iconst (q := 28) (v := (0 : Int32)) hx (dc kX2_readSeveral_0 14 rfl) (by decide) rfl ?_
      exact r_cW hx (Or.inl rfl) hR (dc kX2_readSeveral_0 15 rfl)
  · refine j_iconst (q := 11) (v := (0 : Int32)) hx (dc kX2_readSeveral_0 5 rfl) (by decide) rfl ?_
    exact r_cW hx (Or.inl rfl) hR (dc kX2_readSeveral_0 6 rfl)
theorem sg_X2_readEither : ∀ n : Nat, (∀ (l : Launch) (w : Wd) (x0 : Nat) (x1 : Int32) (h : Hp) (u : (Int32 × Hp)), mX2_readEither n x0 x1 h = some u → M1 l w mi_X2_readEither (2 + n) [vR w x0, .int x1] h u.2 (some (.int u.1))) ∧
  (∀ (x0 : Nat) (x1 : Int32) (h : Hp), mX2_readEither n x0 x1 h ≠ none → (hpS h x0).1 = 3) ∧
  (∀ (l : Launch) (w : Wd) (x0 : Nat) (x1 : Int32) (h : Hp) (u : (Int32 × Hp)), mX2_readEvery n x0 x1 h = some u → M1 l w mi_X2_readEvery (2 + n) [vR w x0, .int x1] h u.2 (some (.int u.1))) ∧
  (∀ (x0 : Nat) (x1 : Int32) (h : Hp), mX2_readEvery n x0 x1 h ≠ none → (hpS h x0).1 = 3) ∧
  (∀ (l : Launch) (w : Wd) (x0 : Nat) (x1 : Int32) (h : Hp) (u : (Int32 × Hp)), mX2_readOne n x0 x1 h = some u → M1 l w mi_X2_readOne (2 + n) [vR w x0, .int x1] h u.2 (some (.int u.1))) ∧
  (∀ (x0 : Nat) (x1 : Int32) (h : Hp), mX2_readOne n x0 x1 h ≠ none → (hpS h x0).1 = 3) ∧
  (∀ (l : Launch) (w : Wd) (x0 : Nat) (x1 : Int32) (h : Hp) (u : (Int32 × Hp)), mX2_readSeveral n x0 x1 h = some u → M1 l w mi_X2_readSeveral (2 + n) [vR w x0, .int x1] h u.2 (some (.int u.1))) ∧
  (∀ (x0 : Nat) (x1 : Int32) (h : Hp), mX2_readSeveral n x0 x1 h ≠ none → (hpS h x0).1 = 3) := by
  intro n
  induction n with
  | zero => exact ⟨fun _ _  _ _ _ _ e => (by cases e), fun _ _ _ e => absurd rfl e, fun _ _  _ _ _ _ e => (by cases e), fun _ _ _ e => absurd rfl e, fun _ _  _ _ _ _ e => (by cases e), fun _ _ _ e => absurd rfl e, fun _ _  _ _ _ _ e => (by cases e), fun _ _ _ e => absurd rfl e⟩
  | succ n ih =>
    obtain ⟨hg0, hk0, hg1, hk1, hg2, hk2, hg3, hk3⟩ := ih
    exact ⟨sX2_readEither_F (2 + n) (by omega) (mg_X2_readEither n) hg0 hk0 hg1 hk1 hg2 hk2 hg3 hk3, fun x0 x1 h e => ite_ne (by have e2 : mX2_readEither_F (mg_X2_readEither n) x0 x1 h ≠ none := e; unfold mX2_readEither_F at e2; exact e2), sX2_readEvery_F (2 + n) (by omega) (mg_X2_readEither n) hg0 hk0 hg1 hk1 hg2 hk2 hg3 hk3, fun x0 x1 h e => ite_ne (by have e2 : mX2_readEvery_F (mg_X2_readEither n) x0 x1 h ≠ none := e; unfold mX2_readEvery_F at e2; exact e2), sX2_readOne_F (2 + n) (by omega) (mg_X2_readEither n) hg0 hk0 hg1 hk1 hg2 hk2 hg3 hk3, fun x0 x1 h e => ite_ne (by have e2 : mX2_readOne_F (mg_X2_readEither n) x0 x1 h ≠ none := e; unfold mX2_readOne_F at e2; exact e2), sX2_readSeveral_F (2 + n) (by omega) (mg_X2_readEither n) hg0 hk0 hg1 hk1 hg2 hk2 hg3 hk3, fun x0 x1 h e => ite_ne (by have e2 : mX2_readSeveral_F (mg_X2_readEither n) x0 x1 h ≠ none := e; unfold mX2_readSeveral_F at e2; exact e2)⟩
theorem sX2_readEither (n : Nat) (l : Launch) (w : Wd) (x0 : Nat) (x1 : Int32) (h : Hp) (u : (Int32 × Hp)) (hu : mX2_readEither n x0 x1 h = some u) : M1 l w mi_X2_readEither (2 + n) [vR w x0, .int x1] h u.2 (some (.int u.1)) := (sg_X2_readEither n).1 l w x0 x1 h u hu
theorem kX2_readEither (n : Nat) (x0 : Nat) (x1 : Int32) (h : Hp) (e : mX2_readEither n x0 x1 h ≠ none) : (hpS h x0).1 = 3 := (sg_X2_readEither n).2.1 x0 x1 h e
theorem sX2_readEvery (n : Nat) (l : Launch) (w : Wd) (x0 : Nat) (x1 : Int32) (h : Hp) (u : (Int32 × Hp)) (hu : mX2_readEvery n x0 x1 h = some u) : M1 l w mi_X2_readEvery (2 + n) [vR w x0, .int x1] h u.2 (some (.int u.1)) := (sg_X2_readEither n).2.2.1 l w x0 x1 h u hu
theorem kX2_readEvery (n : Nat) (x0 : Nat) (x1 : Int32) (h : Hp) (e : mX2_readEvery n x0 x1 h ≠ none) : (hpS h x0).1 = 3 := (sg_X2_readEither n).2.2.2.1 x0 x1 h e
theorem sX2_readOne (n : Nat) (l : Launch) (w : Wd) (x0 : Nat) (x1 : Int32) (h : Hp) (u : (Int32 × Hp)) (hu : mX2_readOne n x0 x1 h = some u) : M1 l w mi_X2_readOne (2 + n) [vR w x0, .int x1] h u.2 (some (.int u.1)) := (sg_X2_readEither n).2.2.2.2.1 l w x0 x1 h u hu
theorem kX2_readOne (n : Nat) (x0 : Nat) (x1 : Int32) (h : Hp) (e : mX2_readOne n x0 x1 h ≠ none) : (hpS h x0).1 = 3 := (sg_X2_readEither n).2.2.2.2.2.1 x0 x1 h e
theorem sX2_readSeveral (n : Nat) (l : Launch) (w : Wd) (x0 : Nat) (x1 : Int32) (h : Hp) (u : (Int32 × Hp)) (hu : mX2_readSeveral n x0 x1 h = some u) : M1 l w mi_X2_readSeveral (2 + n) [vR w x0, .int x1] h u.2 (some (.int u.1)) := (sg_X2_readEither n).2.2.2.2.2.2.1 l w x0 x1 h u hu
theorem kX2_readSeveral (n : Nat) (x0 : Nat) (x1 : Int32) (h : Hp) (e : mX2_readSeveral n x0 x1 h ≠ none) : (hpS h x0).1 = 3 := (sg_X2_readEither n).2.2.2.2.2.2.2 x0 x1 h e

set_option maxHeartbeats 4000000 in
set_option maxRecDepth 100000 in
theorem sJ13_bitCount_95d88 (l : Launch) (w : Wd) (x0 : Int64) (h : Hp) (u : Int32) (hK : mJ13_bitCount_95d88 x0 = some u) : M1 l w mi_J13_bitCount_95d88 1 [.long x0] h h (some (.int u)) := by
  refine M1.of (own := RJ13) (T := fun _ r => r = u) hK (by decide +kernel) rfl (by first | (simp only [lg_lenR, lg_lenI, lg_lenL, lg_len0]; decide) | decide) (fun x hx hnl hhf hl hw hret hnm hQ h0e => ⟨?_, rfl⟩)
  subst hw
  subst hl
  have hR : Rt x h h (some (.int u)) ((some .int)) := ⟨h0e, hhf, hret, hQ⟩
  have hn : ∀ i, i < 2 → i < x.2.2.1.1.1 := fun i hi => by rw [hnl]; exact hi
  have e0 : lv_args 0 [.long x0] = [(0, .long x0)] := by simp only [lv_argsR, lv_argsI, lv_argsL, lv_args0]
  rw [e0]
  have hb55 : ∀ (x0 : Int64), J x 55 [(0, .long x0)] [] h (mJ13_bitCount_95d88_b55 x0) (fun r => r = u) := by
    intro x0
    unfold mJ13_bitCount_95d88_b55
    refine j_lload_n (q := 56) hx (dc kJ13_bitCount_95d88_0 44 rfl) rfl 0 rfl rfl ?_
    refine j_l2i (q := 57) hx (dc kJ13_bitCount_95d88_0 45 rfl) rfl ?_
    refine j_bipush (q := 59) (v := (127 : Int32)) hx (dc kJ13_bitCount_95d88_0 46 rfl) (by decide) rfl ?_
    refine j_iand (q := 60) hx (dc kJ13_bitCount_95d88_0 47 rfl) rfl ?_
    exact r_iR hx hR (dc kJ13_bitCount_95d88_0 48 rfl)
  have hb41 : ∀ (x0 : Int64), J x 41 [(0, .long x0)] [] h (mJ13_bitCount_95d88_b41 x0) (fun r => r = u) := by
    intro x0
    unfold mJ13_bitCount_95d88_b41
    refine j_lload_n (q := 42) hx (dc kJ13_bitCount_95d88_0 32 rfl) rfl 0 rfl rfl ?_
    refine j_lload_n (q := 43) hx (dc kJ13_bitCount_95d88_0 33 rfl) rfl 0 rfl rfl ?_
    refine j_bipush (q := 45) (v := (16 : Int32)) hx (dc kJ13_bitCount_95d88_0 34 rfl) (by decide) rfl ?_
    refine j_lushr (q := 46) hx (dc kJ13_bitCount_95d88_0 35 rfl) rfl ?_
    refine j_ladd (q := 47) hx (dc kJ13_bitCount_95d88_0 36 rfl) rfl ?_
    refine j_lstore_n (q := 48) (i := 0) (l2 := []) hx (dc kJ13_bitCount_95d88_0 37 rfl) rfl (hn 1 (by decide)) [] rfl trivial (fun q hq => by cases hq) rfl ?_
    refine j_lload_n (q := 49) hx (dc kJ13_bitCount_95d88_0 38 rfl) rfl 0 rfl rfl ?_
    refine j_lload_n (q := 50) hx (dc kJ13_bitCount_95d88_0 39 rfl) rfl 0 rfl rfl ?_
    refine j_bipush (q := 52) (v := (32 : Int32)) hx (dc kJ13_bitCount_95d88_0 40 rfl) (by decide) rfl ?_
    refine j_lushr (q := 53) hx (dc kJ13_bitCount_95d88_0 41 rfl) rfl ?_
    refine j_ladd (q := 54) hx (dc kJ13_bitCount_95d88_0 42 rfl) rfl ?_
    refine j_lstore_n (q := 55) (i := 0) (l2 := []) hx (dc kJ13_bitCount_95d88_0 43 rfl) rfl (hn 1 (by decide)) [] rfl trivial (fun q hq => by cases hq) rfl ?_
    exact hb55 ((x0 + (ushrL x0 (16 : Int32))) + (ushrL (x0 + (ushrL x0 (16 : Int32))) (32 : Int32)))
  have hb24 : ∀ (x0 : Int64), J x 24 [(0, .long x0)] [] h (mJ13_bitCount_95d88_b24 x0) (fun r => r = u) := by
    intro x0
    unfold mJ13_bitCount_95d88_b24
    refine j_lload_n (q := 25) hx (dc kJ13_bitCount_95d88_0 18 rfl) rfl 0 rfl rfl ?_
    refine j_lload_n (q := 26) hx (dc kJ13_bitCount_95d88_0 19 rfl) rfl 0 rfl rfl ?_
    refine j_iconst (q := 27) (v := (4 : Int32)) hx (dc kJ13_bitCount_95d88_0 20 rfl) (by decide) rfl ?_
    refine j_lushr (q := 28) hx (dc kJ13_bitCount_95d88_0 21 rfl) rfl ?_
    refine j_ladd (q := 29) hx (dc kJ13_bitCount_95d88_0 22 rfl) rfl ?_
    refine j_ldc2 (q := 32) hx kl_J13_318 (dc kJ13_bitCount_95d88_0 23 rfl) rfl ?_
    refine j_land (q := 33) hx (dc kJ13_bitCount_95d88_0 24 rfl) rfl ?_
    refine j_lstore_n (q := 34) (i := 0) (l2 := []) hx (dc kJ13_bitCount_95d88_0 25 rfl) rfl (hn 1 (by decide)) [] rfl trivial (fun q hq => by cases hq) rfl ?_
    refine j_lload_n (q := 35) hx (dc kJ13_bitCount_95d88_0 26 rfl) rfl 0 rfl rfl ?_
    refine j_lload_n (q := 36) hx (dc kJ13_bitCount_95d88_0 27 rfl) rfl 0 rfl rfl ?_
    refine j_bipush (q := 38) (v := (8 : Int32)) hx (dc kJ13_bitCount_95d88_0 28 rfl) (by decide) rfl ?_
    refine j_lushr (q := 39) hx (dc kJ13_bitCount_95d88_0 29 rfl) rfl ?_
    refine j_ladd (q := 40) hx (dc kJ13_bitCount_95d88_0 30 rfl) rfl ?_
    refine j_lstore_n (q := 41) (i := 0) (l2 := []) hx (dc kJ13_bitCount_95d88_0 31 rfl) rfl (hn 1 (by decide)) [] rfl trivial (fun q hq => by cases hq) rfl ?_
    exact hb41 (((x0 + (ushrL x0 (4 : Int32))) &&& (1085102592571150095 : Int64)) + (ushrL ((x0 + (ushrL x0 (4 : Int32))) &&& (1085102592571150095 : Int64)) (8 : Int32)))
  unfold mJ13_bitCount_95d88
  refine j_lload_n (q := 1) hx (dc kJ13_bitCount_95d88_0 0 rfl) rfl 0 rfl rfl ?_
  refine j_lload_n (q := 2) hx (dc kJ13_bitCount_95d88_0 1 rfl) rfl 0 rfl rfl ?_
  refine j_iconst (q := 3) (v := (1 : Int32)) hx (dc kJ13_bitCount_95d88_0 2 rfl) (by decide) rfl ?_
  refine j_lushr (q := 4) hx (dc kJ13_bitCount_95d88_0 3 rfl) rfl ?_
  refine j_ldc2 (q := 7) hx kl_J13_314 (dc kJ13_bitCount_95d88_0 4 rfl) rfl ?_
  refine j_land (q := 8) hx (dc kJ13_bitCount_95d88_0 5 rfl) rfl ?_
  refine j_lsub (q := 9) hx (dc kJ13_bitCount_95d88_0 6 rfl) rfl ?_
  refine j_lstore_n (q := 10) (i := 0) (l2 := []) hx (dc kJ13_bitCount_95d88_0 7 rfl) rfl (hn 1 (by decide)) [] rfl trivial (fun q hq => by cases hq) rfl ?_
  refine j_lload_n (q := 11) hx (dc kJ13_bitCount_95d88_0 8 rfl) rfl 0 rfl rfl ?_
  refine j_ldc2 (q := 14) hx kl_J13_316 (dc kJ13_bitCount_95d88_0 9 rfl) rfl ?_
  refine j_land (q := 15) hx (dc kJ13_bitCount_95d88_0 10 rfl) rfl ?_
  refine j_lload_n (q := 16) hx (dc kJ13_bitCount_95d88_0 11 rfl) rfl 0 rfl rfl ?_
  refine j_iconst (q := 17) (v := (2 : Int32)) hx (dc kJ13_bitCount_95d88_0 12 rfl) (by decide) rfl ?_
  refine j_lushr (q := 18) hx (dc kJ13_bitCount_95d88_0 13 rfl) rfl ?_
  refine j_ldc2 (q := 21) hx kl_J13_316 (dc kJ13_bitCount_95d88_0 14 rfl) rfl ?_
  refine j_land (q := 22) hx (dc kJ13_bitCount_95d88_0 15 rfl) rfl ?_
  refine j_ladd (q := 23) hx (dc kJ13_bitCount_95d88_0 16 rfl) rfl ?_
  refine j_lstore_n (q := 24) (i := 0) (l2 := []) hx (dc kJ13_bitCount_95d88_0 17 rfl) rfl (hn 1 (by decide)) [] rfl trivial (fun q hq => by cases hq) rfl ?_
  exact hb24 (((x0 - ((ushrL x0 (1 : Int32)) &&& (6148914691236517205 : Int64))) &&& (3689348814741910323 : Int64)) + ((ushrL (x0 - ((ushrL x0 (1 : Int32)) &&& (6148914691236517205 : Int64))) (2 : Int32)) &&& (3689348814741910323 : Int64)))

set_option maxHeartbeats 4000000 in
set_option maxRecDepth 100000 in
theorem sX10_size (l : Launch) (w : Wd) (x0 : Nat) (h : Hp) (u : Int32) (hK : mX10_size x0 h = some u) : M1 l w mi_X10_size 2 [vR w x0] h h (some (.int u)) := by
  refine M1.of (own := RX10) (T := fun _ r => r = u) hK (by decide +kernel) rfl (by first | (simp only [lg_lenR, lg_lenI, lg_lenL, lg_len0]; decide) | decide) (fun x hx hnl hhf hl hw hret hnm hQ h0e => ⟨?_, rfl⟩)
  subst hw
  subst hl
  have hR : Rt x h h (some (.int u)) ((some .int)) := ⟨h0e, hhf, hret, hQ⟩
  have hn : ∀ i, i < 3 → i < x.2.2.1.1.1 := fun i hi => by rw [hnl]; exact hi
  have e0 : lv_args 0 [vR x.2.2.2 x0] = [(0, vR x.2.2.2 x0)] := by simp only [lv_argsR, lv_argsI, lv_argsL, lv_args0]
  rw [e0]
  have hb4 : ∀ (x0 : Nat) (x1 : Int32) (x2 : Int32), J x 4 [(0, vR x.2.2.2 x0), (1, .int x1), (2, .int x2)] [] h (mX10_size_l4 x0 x1 x2 h) (fun r => r = u) := by
    intro x0 x1 x2
    have hB : ∀ (x1 : Int32) (x2 : Int32), J x 4 [(0, vR x.2.2.2 x0), (1, .int x1), (2, .int x2)] [] h (mX10_size_l4f x0 h x1 x2) (TLo (S := (Int32 × Int32)) x 4 (fun s => [(0, vR x.2.2.2 x0), (1, .int s.1), (2, .int s.2)]) [] (fun s => h) (fun r => r = u)) := by
      intro x1 x2
      unfold mX10_size_l4f
      refine j_iload_n (q := 5) hx (dc kX10_size_0 4 rfl) rfl 2 rfl rfl ?_
      refine j_aload_n (q := 6) hx (dc kX10_size_0 5 rfl) rfl 0 rfl rfl ?_
      refine w_gR (q := 9) hx (dc kX10_size_0 6 rfl) ff_X10_0 lk_X10_9 rfl (fun v1 => ?_)
      refine j_alen (q := 10) hx (dc kX10_size_0 7 rfl) rfl (fun v2 => ?_)
      refine j_icmp_geS (q := 13) (tgt := 31) hx (dc kX10_size_0 8 rfl) (by decide) rfl ?_ ?_
      · refine j_exit ?_
        refine j_iload_n (q := 32) hx (dc kX10_size_0 19 rfl) rfl 1 rfl rfl ?_
        exact r_iR hx hR (dc kX10_size_0 20 rfl)
      · refine j_iload_n (q := 14) hx (dc kX10_size_0 9 rfl) rfl 1 rfl rfl ?_
        refine j_aload_n (q := 15) hx (dc kX10_size_0 10 rfl) rfl 0 rfl rfl ?_
        refine w_gR (q := 18) hx (dc kX10_size_0 11 rfl) ff_X10_0 lk_X10_9 rfl (fun v3 => ?_)
        refine j_iload_n (q := 19) hx (dc kX10_size_0 12 rfl) rfl 2 rfl rfl ?_
        refine j_ldL (q := 20) hx (dc kX10_size_0 13 rfl) rfl (fun v4 => ?_)
        refine w_cSIR (q := 23) (As := [.long v4]) (st := [.int x1]) hx (dc kX10_size_0 14 rfl) (cI _ my_J13_bitCount_95d88 lm_X10_36 (by decide)) st_J13_bitCount_95d88 rfl (fun u hu => sJ13_bitCount_95d88 _ _ _ _ _ hu) (sum_le (sum_I sum_nil) (by decide)) rfl (fun v5 => ?_)
        refine j_iadd (q := 24) hx (dc kX10_size_0 15 rfl) rfl ?_
        refine j_istore_n (q := 25) (i := 1) (l2 := [(0, vR x.2.2.2 x0), (2, .int x2)]) hx (dc kX10_size_0 16 rfl) rfl (hn 1 (by decide)) [0, 2] rfl ⟨⟨show (0 : Nat) ≠ 1 by decide, Or.inr (vR_cat _ _)⟩, ⟨⟨show (2 : Nat) ≠ 1 by decide, Or.inl (show (2 : Nat) + 1 ≠ 1 by decide)⟩, trivial⟩⟩ rfl ?_
        refine j_iinc (q := 28) (l2 := [(1, .int (x1 + v5)), (0, vR x.2.2.2 x0)]) hx (dc kX10_size_0 17 rfl) 2 rfl (v := (1 : Int32)) (by decide) (hn 2 (by decide)) [0, 1] rfl ⟨⟨show (1 : Nat) ≠ 2 by decide, Or.inr rfl⟩, ⟨⟨show (0 : Nat) ≠ 2 by decide, Or.inl (show (0 : Nat) + 1 ≠ 2 by decide)⟩, trivial⟩⟩ rfl ?_
        refine j_goto (q := 4) hx (dc kX10_size_0 18 rfl) (by decide) ?_
        exact j_back [2, 1, 0] ((x1 + v5), (x2 + (1 : Int32))) rfl rfl
    exact j_loop (S := (Int32 × Int32)) (lvf := fun s => [(0, vR x.2.2.2 x0), (1, .int s.1), (2, .int s.2)]) (hpf := fun s => h) (f := (fun s : (Int32 × Int32) => mX10_size_l4f x0 h s.1 s.2)) (fun s => hB s.1 s.2) (x1, x2)
  unfold mX10_size
  refine J.ckd fun hck => ?_
  refine j_iconst (q := 1) (v := (0 : Int32)) hx (dc kX10_size_0 0 rfl) (by decide) rfl ?_
  refine j_istore_n (q := 2) (i := 1) (l2 := [(0, vR x.2.2.2 x0)]) hx (dc kX10_size_0 1 rfl) rfl (hn 1 (by decide)) [0] rfl ⟨⟨show (0 : Nat) ≠ 1 by decide, Or.inr (vR_cat _ _)⟩, trivial⟩ rfl ?_
  refine j_iconst (q := 3) (v := (0 : Int32)) hx (dc kX10_size_0 2 rfl) (by decide) rfl ?_
  refine j_istore_n (q := 4) (i := 2) (l2 := [(1, .int (0 : Int32)), (0, vR x.2.2.2 x0)]) hx (dc kX10_size_0 3 rfl) rfl (hn 2 (by decide)) [0, 1] rfl ⟨⟨show (1 : Nat) ≠ 2 by decide, Or.inr rfl⟩, ⟨⟨show (0 : Nat) ≠ 2 by decide, Or.inl (show (0 : Nat) + 1 ≠ 2 by decide)⟩, trivial⟩⟩ rfl ?_
  exact j_sub [2, 1, 0] rfl (hb4 x0 (0 : Int32) (0 : Int32))

set_option maxHeartbeats 4000000 in
set_option maxRecDepth 100000 in
theorem sX10_isEmpty (l : Launch) (w : Wd) (x0 : Nat) (h : Hp) (u : Int32) (hK : mX10_isEmpty x0 h = some u) : M1 l w mi_X10_isEmpty 3 [vR w x0] h h (some (.int u)) := by
  refine M1.of (own := RX10) (T := fun _ r => r = u) hK (by decide +kernel) rfl (by first | (simp only [lg_lenR, lg_lenI, lg_lenL, lg_len0]; decide) | decide) (fun x hx hnl hhf hl hw hret hnm hQ h0e => ⟨?_, rfl⟩)
  subst hw
  subst hl
  have hR : Rt x h h (some (.int u)) ((some .boolean)) := ⟨h0e, hhf, hret, hQ⟩
  have hn : ∀ i, i < 1 → i < x.2.2.1.1.1 := fun i hi => by rw [hnl]; exact hi
  have e0 : lv_args 0 [vR x.2.2.2 x0] = [(0, vR x.2.2.2 x0)] := by simp only [lv_argsR, lv_argsI, lv_argsL, lv_args0]
  rw [e0]
  unfold mX10_isEmpty
  refine J.ckd fun hck => ?_
  refine j_aload_n (q := 1) hx (dc kX10_isEmpty_0 0 rfl) rfl 0 rfl rfl ?_
  refine w_cVIR (q := 4) (As := []) (st := []) hx (dc kX10_isEmpty_0 1 rfl) cf10 (by decide) rfl (cI _ my_X10_size lm_X10_32 (by decide)) vs_X10_size rfl (fun u hu => sX10_size _ _ _ _ _ hu) (fun e => ite_ne (by unfold mX10_size at e; exact e)) (Nat.zero_le _) rfl (fun v1 => ?_)
  refine j_if_neS (q := 7) (tgt := 11) hx (dc kX10_isEmpty_0 2 rfl) (by decide) rfl ?_ ?_
  · refine j_iconst (q := 12) (v := (0 : Int32)) hx (dc kX10_isEmpty_0 5 rfl) (by decide) rfl ?_
    exact r_cR hx (Or.inl rfl) hR (dc kX10_isEmpty_0 6 rfl)
  · refine j_iconst (q := 8) (v := (1 : Int32)) hx (dc kX10_isEmpty_0 3 rfl) (by decide) rfl ?_
    refine j_goto (q := 12) hx (dc kX10_isEmpty_0 4 rfl) (by decide) ?_
    exact r_cR hx (Or.inr rfl) hR (dc kX10_isEmpty_0 6 rfl)

set_option maxHeartbeats 4000000 in
set_option maxRecDepth 100000 in
theorem sX2_readNever (l : Launch) (w : Wd) (x0 : Nat) (h : Hp) (u : (Int32 × Hp)) (hK : mX2_readNever x0 h = some u) : M1 l w mi_X2_readNever 44 [vR w x0] h u.2 (some (.int u.1)) := by
  refine M1.of (own := RX2) (T := fun _ r => r = u) hK (by decide +kernel) rfl (by first | (simp only [lg_lenR, lg_lenI, lg_lenL, lg_len0]; decide) | decide) (fun x hx hnl hhf hl hw hret hnm hQ h0e => ⟨?_, rfl⟩)
  subst hw
  subst hl
  have hR : Rt x h u.2 (some (.int u.1)) ((some .boolean)) := ⟨h0e, hhf, hret, hQ⟩
  have hn : ∀ i, i < 3 → i < x.2.2.1.1.1 := fun i hi => by rw [hnl]; exact hi
  have e0 : lv_args 0 [vR x.2.2.2 x0] = [(0, vR x.2.2.2 x0)] := by simp only [lv_argsR, lv_argsI, lv_argsL, lv_args0]
  rw [e0]
  unfold mX2_readNever
  refine J.ckd fun hck => ?_
  refine j_aload_n (q := 1) hx (dc kX2_readNever_0 0 rfl) rfl 0 rfl rfl ?_
  refine w_gR (q := 4) hx (dc kX2_readNever_0 1 rfl) ff_X2_3 lk_X2_26 rfl (fun v1 => ?_)
  refine w_gI (q := 7) hx (dc kX2_readNever_0 2 rfl) ff_X1_3 lk_X2_119 rfl (fun v2 => ?_)
  refine j_bipush (q := 9) (v := (6 : Int32)) hx (dc kX2_readNever_0 3 rfl) (by decide) rfl ?_
  refine j_icmp_lt (q := 12) (tgt := 18) hx (dc kX2_readNever_0 4 rfl) (by decide) Iff.rfl rfl ?_ ?_
  · refine j_aload_n (q := 19) hx (dc kX2_readNever_0 9 rfl) rfl 0 rfl rfl ?_
    refine w_gI (q := 22) hx (dc kX2_readNever_0 10 rfl) ff_X2_5 lk_X2_65 rfl (fun v3 => ?_)
    refine j_istore_n (q := 23) (i := 1) (l2 := [(0, vR x.2.2.2 x0)]) hx (dc kX2_readNever_0 11 rfl) rfl (hn 1 (by decide)) [0] rfl ⟨⟨show (0 : Nat) ≠ 1 by decide, Or.inr (vR_cat _ _)⟩, trivial⟩ rfl ?_
    refine j_aload_n (q := 24) hx (dc kX2_readNever_0 12 rfl) rfl 1 rfl rfl ?_
    refine w_gR (q := 27) hx (dc kX2_readNever_0 13 rfl) ff_X2_3 lk_X2_26 rfl (fun v4 => ?_)
    refine w_gI (q := 30) hx (dc kX2_readNever_0 14 rfl) ff_X1_13 lk_X2_122 rfl (fun v5 => ?_)
    refine j_istore_n (q := 31) (i := 2) (l2 := [(1, .int v3), (0, vR x.2.2.2 x0)]) hx (dc kX2_readNever_0 15 rfl) rfl (hn 2 (by decide)) [0, 1] rfl ⟨⟨show (1 : Nat) ≠ 2 by decide, Or.inr rfl⟩, ⟨⟨show (0 : Nat) ≠ 2 by decide, Or.inl (show (0 : Nat) + 1 ≠ 2 by decide)⟩, trivial⟩⟩ rfl ?_
    refine j_aload_n (q := 32) hx (dc kX2_readNever_0 16 rfl) rfl 2 rfl rfl ?_
    refine j_dup (q := 33) hx (dc kX2_readNever_0 17 rfl) (vR_cat _ _) rfl ?_
    refine w_gI (q := 36) hx (dc kX2_readNever_0 18 rfl) ff_X2_5 lk_X2_65 rfl (fun v6 => ?_)
    refine j_iconst (q := 37) (v := (1 : Int32)) hx (dc kX2_readNever_0 19 rfl) (by decide) rfl ?_
    refine j_iadd (q := 38) hx (dc kX2_readNever_0 20 rfl) rfl ?_
    refine w_sI (q := 41) hx (dc kX2_readNever_0 21 rfl) ff_X2_5 rfl lk_X2_65 (Or.inl rfl) rfl (fun h7 => ?_)
    refine j_aload_n (q := 42) hx (dc kX2_readNever_0 22 rfl) rfl 2 rfl rfl ?_
    refine j_iconst (q := 43) (v := (0 : Int32)) hx (dc kX2_readNever_0 23 rfl) (by decide) rfl ?_
    refine w_cVIW (q := 46) (As := [.int (0 : Int32)]) (st := []) hx (dc kX2_readNever_0 24 rfl) cf2 (by decide) rfl (cI _ my_X2_readEither lm_X2_58 (by decide)) vs_X2_readEither rfl (fun u hu => sX2_readEither 40 _ _ _ _ _ _ hu) (kX2_readEither 40 _ _ _) (Nat.zero_le _) rfl (fun v8 h9 => ?_)
    refine j_if_eq (q := 49) (tgt := 58) hx (dc kX2_readNever_0 25 rfl) (by decide) Iff.rfl rfl ?_ ?_
    · refine j_iconst (q := 59) (v := (0 : Int32)) hx (dc kX2_readNever_0 30 rfl) (by decide) rfl ?_
      exact r_cW hx (Or.inl rfl) hR (dc kX2_readNever_0 31 rfl)
    · refine j_aload_n (q := 50) hx (dc kX2_readNever_0 26 rfl) rfl 2 rfl rfl ?_
      refine j_bipush (q := 52) (v := (59 : Int32)) hx (dc kX2_readNever_0 27 rfl) (by decide) rfl ?_
      refine w_cVIW (q := 55) (As := [.int (59 : Int32)]) (st := []) hx (dc kX2_readNever_0 28 rfl) cf2 (by decide) rfl (cI _ my_X2_expect lm_X2_62 (by decide)) vs_X2_expect rfl (fun u hu => sX2_expect _ _ _ _ _ _ hu) (fun e => ite_ne (by unfold mX2_expect at e; exact e)) (Nat.zero_le _) rfl (fun v10 h11 => ?_)
      refine j_if_neS (q := 58) (tgt := 60) hx (dc kX2_readNever_0 29 rfl) (by decide) rfl ?_ ?_
      · refine j_aload_n (q := 61) hx (dc kX2_readNever_0 32 rfl) rfl 2 rfl rfl ?_
        refine w_gR (q := 64) hx (dc kX2_readNever_0 33 rfl) ff_X2_1 lk_X2_22 rfl (fun v12 => ?_)
        refine j_aload_n (q := 65) hx (dc kX2_readNever_0 34 rfl) rfl 2 rfl rfl ?_
        refine w_gR (q := 68) hx (dc kX2_readNever_0 35 rfl) ff_X2_3 lk_X2_26 rfl (fun v13 => ?_)
        refine w_gR (q := 71) hx (dc kX2_readNever_0 36 rfl) ff_X1_12 lk_X2_125 rfl (fun v14 => ?_)
        refine j_iload_n (q := 72) hx (dc kX2_readNever_0 37 rfl) rfl 0 rfl rfl ?_
        refine j_aload_n (q := 73) hx (dc kX2_readNever_0 38 rfl) rfl 2 rfl rfl ?_
        refine w_gR (q := 76) hx (dc kX2_readNever_0 39 rfl) ff_X2_3 lk_X2_26 rfl (fun v15 => ?_)
        refine w_gI (q := 79) hx (dc kX2_readNever_0 40 rfl) ff_X1_13 lk_X2_122 rfl (fun v16 => ?_)
        refine j_aload_n (q := 80) hx (dc kX2_readNever_0 41 rfl) rfl 2 rfl rfl ?_
        refine w_gR (q := 83) hx (dc kX2_readNever_0 42 rfl) ff_X2_2 lk_X2_12 rfl (fun v17 => ?_)
        refine w_cVVW (q := 86) (As := [vR x.2.2.2 v14, .int v5, .int v16, vR x.2.2.2 v17]) (st := []) hx (dc kX2_readNever_0 43 rfl) cf4 (by decide) rfl (cI _ my_X4_tabulate lm_X2_128 (by decide)) vs_X4_tabulate rfl (fun u hu => sX4_tabulate _ _ _ _ _ _ _ _ _ hu) (fun e => ite_ne (by unfold mX4_tabulate at e; exact e)) (Nat.zero_le _) rfl (fun h19 => ?_)
        refine j_aload_n (q := 87) hx (dc kX2_readNever_0 44 rfl) rfl 2 rfl rfl ?_
        refine w_gR (q := 90) hx (dc kX2_readNever_0 45 rfl) ff_X2_3 lk_X2_26 rfl (fun v20 => ?_)
        refine w_gR (q := 93) hx (dc kX2_readNever_0 46 rfl) ff_X1_17 lk_X2_134 rfl (fun v21 => ?_)
        refine j_aload_n (q := 94) hx (dc kX2_readNever_0 47 rfl) rfl 2 rfl rfl ?_
        refine w_gR (q := 97) hx (dc kX2_readNever_0 48 rfl) ff_X2_2 lk_X2_12 rfl (fun v22 => ?_)
        refine w_cVVW (q := 100) (As := [vR x.2.2.2 v22]) (st := []) hx (dc kX2_readNever_0 49 rfl) cf10 (by decide) rfl (cI _ my_X10_minus lm_X2_137 (by decide)) vs_X10_minus rfl (fun u hu => sX10_minus _ _ _ _ _ _ hu) (fun e => ite_ne (by unfold mX10_minus at e; exact e)) (Nat.zero_le _) rfl (fun h24 => ?_)
        refine j_aload_n (q := 101) hx (dc kX2_readNever_0 50 rfl) rfl 2 rfl rfl ?_
        refine w_gR (q := 104) hx (dc kX2_readNever_0 51 rfl) ff_X2_3 lk_X2_26 rfl (fun v25 => ?_)
        refine j_dup (q := 105) hx (dc kX2_readNever_0 52 rfl) (vR_cat _ _) rfl ?_
        refine w_gI (q := 108) hx (dc kX2_readNever_0 53 rfl) ff_X1_3 lk_X2_119 rfl (fun v26 => ?_)
        refine j_iconst (q := 109) (v := (1 : Int32)) hx (dc kX2_readNever_0 54 rfl) (by decide) rfl ?_
        refine j_iadd (q := 110) hx (dc kX2_readNever_0 55 rfl) rfl ?_
        refine w_sI (q := 113) hx (dc kX2_readNever_0 56 rfl) ff_X1_3 rfl lk_X2_119 (Or.inl rfl) rfl (fun h27 => ?_)
        refine j_aload_n (q := 114) hx (dc kX2_readNever_0 57 rfl) rfl 2 rfl rfl ?_
        refine w_gR (q := 117) hx (dc kX2_readNever_0 58 rfl) ff_X2_3 lk_X2_26 rfl (fun v28 => ?_)
        refine w_gR (q := 120) hx (dc kX2_readNever_0 59 rfl) ff_X1_17 lk_X2_134 rfl (fun v29 => ?_)
        refine w_cVIR (q := 123) (As := []) (st := []) hx (dc kX2_readNever_0 60 rfl) cf10 (by decide) rfl (cI _ my_X10_isEmpty lm_X2_141 (by decide)) vs_X10_isEmpty rfl (fun u hu => sX10_isEmpty _ _ _ _ _ hu) (fun e => ite_ne (by unfold mX10_isEmpty at e; exact e)) (Nat.zero_le _) rfl (fun v30 => ?_)
        refine j_if_eq (q := 126) (tgt := 137) hx (dc kX2_readNever_0 61 rfl) (by decide) Iff.rfl rfl ?_ ?_
        · refine j_iconst (q := 138) (v := (1 : Int32)) hx (dc kX2_readNever_1 5 rfl) (by decide) rfl ?_
          exact r_cW hx (Or.inr rfl) hR (dc kX2_readNever_1 6 rfl)
        · refine j_aload_n (q := 127) hx (dc kX2_readNever_0 62 rfl) rfl 2 rfl rfl ?_
          refine j_iload_n (q := 128) hx (dc kX2_readNever_0 63 rfl) rfl 1 rfl rfl ?_
          refine w_sI (q := 131) hx (dc kX2_readNever_1 0 rfl) ff_X2_5 rfl lk_X2_65 (Or.inl rfl) rfl (fun h32 => ?_)
          refine j_aload_n (q := 132) hx (dc kX2_readNever_1 1 rfl) rfl 2 rfl rfl ?_
          refine j_iconst (q := 133) (v := (5 : Int32)) hx (dc kX2_readNever_1 2 rfl) (by decide) rfl ?_
          refine w_cVIW (q := 136) (As := [.int (5 : Int32)]) (st := []) hx (dc kX2_readNever_1 3 rfl) cf2 (by decide) rfl (cI _ my_X2_fail lm_X2_92 (by decide)) vs_X2_fail rfl (fun u hu => sX2_fail _ _ _ _ _ _ hu) (fun e => ite_ne (by unfold mX2_fail at e; exact e)) (Nat.zero_le _) rfl (fun v33 h34 => ?_)
          exact r_zW hx hR (dc kX2_readNever_1 4 rfl)
      · refine j_iconst (q := 59) (v := (0 : Int32)) hx (dc kX2_readNever_0 30 rfl) (by decide) rfl ?_
        exact r_cW hx (Or.inl rfl) hR (dc kX2_readNever_0 31 rfl)
  · refine j_aload_n (q := 13) hx (dc kX2_readNever_0 5 rfl) rfl 0 rfl rfl ?_
    refine j_iconst (q := 14) (v := (4 : Int32)) hx (dc kX2_readNever_0 6 rfl) (by decide) rfl ?_
    refine w_cVIW (q := 17) (As := [.int (4 : Int32)]) (st := []) hx (dc kX2_readNever_0 7 rfl) cf2 (by decide) rfl (cI _ my_X2_fail lm_X2_92 (by decide)) vs_X2_fail rfl (fun u hu => sX2_fail _ _ _ _ _ _ hu) (fun e => ite_ne (by unfold mX2_fail at e; exact e)) (Nat.zero_le _) rfl (fun v35 h36 => ?_)
    exact r_zW hx hR (dc kX2_readNever_0 8 rfl)

set_option maxHeartbeats 4000000 in
set_option maxRecDepth 100000 in
theorem sX2_readInto (l : Launch) (w : Wd) (x0 : Nat) (x1 : Int32) (h : Hp) (u : (Int32 × Hp)) (hK : mX2_readInto x0 x1 h = some u) : M1 l w mi_X2_readInto 44 [vR w x0, .int x1] h u.2 (some (.int u.1)) := by
  refine M1.of (own := RX2) (T := fun _ r => r = u) hK (by decide +kernel) rfl (by first | (simp only [lg_lenR, lg_lenI, lg_lenL, lg_len0]; decide) | decide) (fun x hx hnl hhf hl hw hret hnm hQ h0e => ⟨?_, rfl⟩)
  subst hw
  subst hl
  have hR : Rt x h u.2 (some (.int u.1)) ((some .boolean)) := ⟨h0e, hhf, hret, hQ⟩
  have hn : ∀ i, i < 3 → i < x.2.2.1.1.1 := fun i hi => by rw [hnl]; exact hi
  have e0 : lv_args 0 [vR x.2.2.2 x0, .int x1] = [(0, vR x.2.2.2 x0), (1, .int x1)] := by simp only [lv_argsR, lv_argsI, lv_argsL, lv_args0]
  rw [e0]
  unfold mX2_readInto
  refine J.ckd fun hck => ?_
  refine j_aload_n (q := 1) hx (dc kX2_readInto_0 0 rfl) rfl 0 rfl rfl ?_
  refine w_gR (q := 4) hx (dc kX2_readInto_0 1 rfl) ff_X2_3 lk_X2_26 rfl (fun v1 => ?_)
  refine w_gR (q := 7) hx (dc kX2_readInto_0 2 rfl) ff_X1_14 lk_X2_200 rfl (fun v2 => ?_)
  refine j_iload_n (q := 8) hx (dc kX2_readInto_0 3 rfl) rfl 1 rfl rfl ?_
  refine j_aload_n (q := 9) hx (dc kX2_readInto_0 4 rfl) rfl 0 rfl rfl ?_
  refine w_gR (q := 12) hx (dc kX2_readInto_0 5 rfl) ff_X2_3 lk_X2_26 rfl (fun v3 => ?_)
  refine w_gI (q := 15) hx (dc kX2_readInto_0 6 rfl) ff_X1_13 lk_X2_122 rfl (fun v4 => ?_)
  refine w_cSVW (q := 18) (As := [vR x.2.2.2 v2, .int x1, .int v4]) (st := []) hx (dc kX2_readInto_0 7 rfl) (cI _ my_X11_put lm_X2_112 (by decide)) st_X11_put rfl (fun u hu => sX11_put _ _ _ _ _ _ _ hu) (Nat.zero_le _) rfl (fun h6 => ?_)
  refine j_aload_n (q := 19) hx (dc kX2_readInto_0 8 rfl) rfl 0 rfl rfl ?_
  refine j_iconst (q := 20) (v := (0 : Int32)) hx (dc kX2_readInto_0 9 rfl) (by decide) rfl ?_
  refine w_cVIW (q := 23) (As := [.int (0 : Int32)]) (st := []) hx (dc kX2_readInto_0 10 rfl) cf2 (by decide) rfl (cI _ my_X2_readEither lm_X2_58 (by decide)) vs_X2_readEither rfl (fun u hu => sX2_readEither 40 _ _ _ _ _ _ hu) (kX2_readEither 40 _ _ _) (Nat.zero_le _) rfl (fun v7 h8 => ?_)
  refine j_istore_n (q := 24) (i := 2) (l2 := [(0, vR x.2.2.2 x0), (1, .int x1)]) hx (dc kX2_readInto_0 11 rfl) rfl (hn 2 (by decide)) [0, 1] rfl ⟨⟨show (0 : Nat) ≠ 2 by decide, Or.inl (show (0 : Nat) + 1 ≠ 2 by decide)⟩, ⟨⟨show (1 : Nat) ≠ 2 by decide, Or.inr rfl⟩, trivial⟩⟩ rfl ?_
  refine j_aload_n (q := 25) hx (dc kX2_readInto_0 12 rfl) rfl 1 rfl rfl ?_
  refine w_gR (q := 28) hx (dc kX2_readInto_0 13 rfl) ff_X2_3 lk_X2_26 rfl (fun v9 => ?_)
  refine w_gR (q := 31) hx (dc kX2_readInto_0 14 rfl) ff_X1_15 lk_X2_203 rfl (fun v10 => ?_)
  refine j_iload_n (q := 32) hx (dc kX2_readInto_0 15 rfl) rfl 2 rfl rfl ?_
  refine j_aload_n (q := 33) hx (dc kX2_readInto_0 16 rfl) rfl 1 rfl rfl ?_
  refine w_gR (q := 36) hx (dc kX2_readInto_0 17 rfl) ff_X2_3 lk_X2_26 rfl (fun v11 => ?_)
  refine w_gI (q := 39) hx (dc kX2_readInto_0 18 rfl) ff_X1_13 lk_X2_122 rfl (fun v12 => ?_)
  refine w_cSVW (q := 42) (As := [vR x.2.2.2 v10, .int x1, .int v12]) (st := []) hx (dc kX2_readInto_0 19 rfl) (cI _ my_X11_put lm_X2_112 (by decide)) st_X11_put rfl (fun u hu => sX11_put _ _ _ _ _ _ _ hu) (Nat.zero_le _) rfl (fun h14 => ?_)
  refine j_iload_n (q := 43) hx (dc kX2_readInto_0 20 rfl) rfl 0 rfl rfl ?_
  exact r_zW hx hR (dc kX2_readInto_0 21 rfl)

set_option maxHeartbeats 4000000 in
set_option maxRecDepth 100000 in
theorem sX5_file (l : Launch) (w : Wd) (x0 : Nat) (x1 : Int32) (x2 : Int32) (x3 : Int32) (h : Hp) (u : (Int32 × Hp)) (hK : mX5_file x0 x1 x2 x3 h = some u) : M1 l w mi_X5_file 2 [vR w x0, .int x1, .int x2, .int x3] h u.2 (some (.int u.1)) := by
  refine M1.of (own := RX5) (T := fun _ r => r = u) hK (by decide +kernel) rfl (by first | (simp only [lg_lenR, lg_lenI, lg_lenL, lg_len0]; decide) | decide) (fun x hx hnl hhf hl hw hret hnm hQ h0e => ⟨?_, rfl⟩)
  subst hw
  subst hl
  have hR : Rt x h u.2 (some (.int u.1)) ((some .int)) := ⟨h0e, hhf, hret, hQ⟩
  have hn : ∀ i, i < 5 → i < x.2.2.1.1.1 := fun i hi => by rw [hnl]; exact hi
  have e0 : lv_args 0 [vR x.2.2.2 x0, .int x1, .int x2, .int x3] = [(0, vR x.2.2.2 x0), (1, .int x1), (2, .int x2), (3, .int x3)] := by simp only [lv_argsR, lv_argsI, lv_argsL, lv_args0]
  rw [e0]
  unfold mX5_file
  refine J.ckd fun hck => ?_
  refine j_aload_n (q := 1) hx (dc kX5_file_0 0 rfl) rfl 0 rfl rfl ?_
  refine w_gI (q := 4) hx (dc kX5_file_0 1 rfl) ff_X5_2 lk_X5_38 rfl (fun v1 => ?_)
  refine j_istore (q := 6) (i := 4) (l2 := [(0, vR x.2.2.2 x0), (1, .int x1), (2, .int x2), (3, .int x3)]) hx (dc kX5_file_0 2 rfl) (hn 4 (by decide)) [0, 1, 2, 3] rfl ⟨⟨show (0 : Nat) ≠ 4 by decide, Or.inl (show (0 : Nat) + 1 ≠ 4 by decide)⟩, ⟨⟨show (1 : Nat) ≠ 4 by decide, Or.inl (show (1 : Nat) + 1 ≠ 4 by decide)⟩, ⟨⟨show (2 : Nat) ≠ 4 by decide, Or.inl (show (2 : Nat) + 1 ≠ 4 by decide)⟩, ⟨⟨show (3 : Nat) ≠ 4 by decide, Or.inr rfl⟩, trivial⟩⟩⟩⟩ rfl ?_
  refine j_aload_n (q := 7) hx (dc kX5_file_0 3 rfl) rfl 1 rfl rfl ?_
  refine w_gR (q := 10) hx (dc kX5_file_0 4 rfl) ff_X5_9 lk_X5_9 rfl (fun v2 => ?_)
  refine j_iload (q := 12) hx (dc kX5_file_0 5 rfl) 0 rfl rfl ?_
  refine j_iload_n (q := 13) hx (dc kX5_file_0 6 rfl) rfl 2 rfl rfl ?_
  refine w_cSVW (q := 16) (As := [vR x.2.2.2 v2, .int v1, .int x1]) (st := []) hx (dc kX5_file_0 7 rfl) (cI _ my_X11_put lm_X5_77 (by decide)) st_X11_put rfl (fun u hu => sX11_put _ _ _ _ _ _ _ hu) (Nat.zero_le _) rfl (fun h4 => ?_)
  refine j_aload_n (q := 17) hx (dc kX5_file_0 8 rfl) rfl 1 rfl rfl ?_
  refine w_gR (q := 20) hx (dc kX5_file_0 9 rfl) ff_X5_10 lk_X5_15 rfl (fun v5 => ?_)
  refine j_iload (q := 22) hx (dc kX5_file_0 10 rfl) 0 rfl rfl ?_
  refine j_iload_n (q := 23) hx (dc kX5_file_0 11 rfl) rfl 3 rfl rfl ?_
  refine w_cSVW (q := 26) (As := [vR x.2.2.2 v5, .int v1, .int x2]) (st := []) hx (dc kX5_file_0 12 rfl) (cI _ my_X11_put lm_X5_77 (by decide)) st_X11_put rfl (fun u hu => sX11_put _ _ _ _ _ _ _ hu) (Nat.zero_le _) rfl (fun h7 => ?_)
  refine j_aload_n (q := 27) hx (dc kX5_file_0 13 rfl) rfl 1 rfl rfl ?_
  refine w_gR (q := 30) hx (dc kX5_file_0 14 rfl) ff_X5_11 lk_X5_18 rfl (fun v8 => ?_)
  refine j_iload (q := 32) hx (dc kX5_file_0 15 rfl) 0 rfl rfl ?_
  refine j_iload_n (q := 33) hx (dc kX5_file_0 16 rfl) rfl 4 rfl rfl ?_
  refine w_cSVW (q := 36) (As := [vR x.2.2.2 v8, .int v1, .int x3]) (st := []) hx (dc kX5_file_0 17 rfl) (cI _ my_X11_put lm_X5_77 (by decide)) st_X11_put rfl (fun u hu => sX11_put _ _ _ _ _ _ _ hu) (Nat.zero_le _) rfl (fun h10 => ?_)
  refine j_aload_n (q := 37) hx (dc kX5_file_0 18 rfl) rfl 1 rfl rfl ?_
  refine w_gR (q := 40) hx (dc kX5_file_0 19 rfl) ff_X5_12 lk_X5_21 rfl (fun v11 => ?_)
  refine j_iload (q := 42) hx (dc kX5_file_0 20 rfl) 0 rfl rfl ?_
  refine j_aload_n (q := 43) hx (dc kX5_file_0 21 rfl) rfl 1 rfl rfl ?_
  refine w_gI (q := 46) hx (dc kX5_file_0 22 rfl) ff_X5_0 lk_X5_30 rfl (fun v12 => ?_)
  refine w_cSVW (q := 49) (As := [vR x.2.2.2 v11, .int v1, .int v12]) (st := []) hx (dc kX5_file_0 23 rfl) (cI _ my_X11_put lm_X5_77 (by decide)) st_X11_put rfl (fun u hu => sX11_put _ _ _ _ _ _ _ hu) (Nat.zero_le _) rfl (fun h14 => ?_)
  refine j_aload_n (q := 50) hx (dc kX5_file_0 24 rfl) rfl 1 rfl rfl ?_
  refine w_gR (q := 53) hx (dc kX5_file_0 25 rfl) ff_X5_13 lk_X5_24 rfl (fun v15 => ?_)
  refine j_iload (q := 55) hx (dc kX5_file_0 26 rfl) 0 rfl rfl ?_
  refine j_iconst (q := 56) (v := (0 : Int32)) hx (dc kX5_file_0 27 rfl) (by decide) rfl ?_
  refine w_cSVW (q := 59) (As := [vR x.2.2.2 v15, .int v1, .int (0 : Int32)]) (st := []) hx (dc kX5_file_0 28 rfl) (cI _ my_X11_put lm_X5_77 (by decide)) st_X11_put rfl (fun u hu => sX11_put _ _ _ _ _ _ _ hu) (Nat.zero_le _) rfl (fun h17 => ?_)
  refine j_aload_n (q := 60) hx (dc kX5_file_0 29 rfl) rfl 1 rfl rfl ?_
  refine w_gR (q := 63) hx (dc kX5_file_0 30 rfl) ff_X5_14 lk_X5_27 rfl (fun v18 => ?_)
  refine j_iload (q := 65) hx (dc kX5_file_0 31 rfl) 0 rfl rfl ?_
  refine j_iconst (q := 66) (v := (0 : Int32)) hx (dc kX5_file_0 32 rfl) (by decide) rfl ?_
  refine w_cSVW (q := 69) (As := [vR x.2.2.2 v18, .int v1, .int (0 : Int32)]) (st := []) hx (dc kX5_file_0 33 rfl) (cI _ my_X11_put lm_X5_77 (by decide)) st_X11_put rfl (fun u hu => sX11_put _ _ _ _ _ _ _ hu) (Nat.zero_le _) rfl (fun h20 => ?_)
  refine j_aload_n (q := 70) hx (dc kX5_file_0 34 rfl) rfl 1 rfl rfl ?_
  refine j_dup (q := 71) hx (dc kX5_file_0 35 rfl) (vR_cat _ _) rfl ?_
  refine w_gI (q := 74) hx (dc kX5_file_0 36 rfl) ff_X5_2 lk_X5_38 rfl (fun v21 => ?_)
  refine j_iconst (q := 75) (v := (1 : Int32)) hx (dc kX5_file_0 37 rfl) (by decide) rfl ?_
  refine j_iadd (q := 76) hx (dc kX5_file_0 38 rfl) rfl ?_
  refine w_sI (q := 79) hx (dc kX5_file_0 39 rfl) ff_X5_2 rfl lk_X5_38 (Or.inl rfl) rfl (fun h22 => ?_)
  refine j_iload (q := 81) hx (dc kX5_file_0 40 rfl) 0 rfl rfl ?_
  exact r_iW hx hR (dc kX5_file_0 41 rfl)

set_option maxHeartbeats 4000000 in
set_option maxRecDepth 100000 in
theorem sX2_readCount (l : Launch) (w : Wd) (x0 : Nat) (h : Hp) (u : (Int32 × Hp)) (hK : mX2_readCount x0 h = some u) : M1 l w mi_X2_readCount 45 [vR w x0] h u.2 (some (.int u.1)) := by
  refine M1.of (own := RX2) (T := fun _ r => r = u) hK (by decide +kernel) rfl (by first | (simp only [lg_lenR, lg_lenI, lg_lenL, lg_len0]; decide) | decide) (fun x hx hnl hhf hl hw hret hnm hQ h0e => ⟨?_, rfl⟩)
  subst hw
  subst hl
  have hR : Rt x h u.2 (some (.int u.1)) ((some .boolean)) := ⟨h0e, hhf, hret, hQ⟩
  have hn : ∀ i, i < 6 → i < x.2.2.1.1.1 := fun i hi => by rw [hnl]; exact hi
  have e0 : lv_args 0 [vR x.2.2.2 x0] = [(0, vR x.2.2.2 x0)] := by simp only [lv_argsR, lv_argsI, lv_argsL, lv_args0]
  rw [e0]
  have hb164 : ∀ (x0 : Nat) (x1 : Int32) (x2 : Int32) (x3 : Int32) (x4 : Int32) (h : Hp), J x 164 [(0, vR x.2.2.2 x0), (1, .int x1), (2, .int x2), (3, .int x3), (4, .int x4)] [] h (mX2_readCount_b164 x0 x1 x2 x3 x4 h) (fun r => r = u) := by
    intro x0 x1 x2 x3 x4 h
    unfold mX2_readCount_b164
    refine j_aload_n (q := 165) hx (dc kX2_readCount_1 17 rfl) rfl 0 rfl rfl ?_
    refine w_cVIR (q := 168) (As := []) (st := []) hx (dc kX2_readCount_1 18 rfl) cf2 (by decide) rfl (cI _ my_X2_nextKind lm_X2_46 (by decide)) vs_X2_nextKind rfl (fun u hu => sX2_nextKind _ _ _ _ _ hu) (fun e => ite_ne (by unfold mX2_nextKind at e; exact e)) (Nat.zero_le _) rfl (fun v18 => ?_)
    refine j_sipush (q := 171) (v := (261 : Int32)) hx (dc kX2_readCount_1 19 rfl) (by decide) rfl ?_
    refine j_icmp_neS (q := 174) (tgt := 180) hx (dc kX2_readCount_1 20 rfl) (by decide) rfl ?_ ?_
    · refine j_aload_n (q := 181) hx (dc kX2_readCount_1 25 rfl) rfl 0 rfl rfl ?_
      refine w_gR (q := 184) hx (dc kX2_readCount_1 26 rfl) ff_X2_3 lk_X2_26 rfl (fun v20 => ?_)
      refine w_gR (q := 187) hx (dc kX2_readCount_1 27 rfl) ff_X1_7 lk_X2_108 rfl (fun v21 => ?_)
      refine j_bipush (q := 189) (v := (8 : Int32)) hx (dc kX2_readCount_1 28 rfl) (by decide) rfl ?_
      refine j_aload_n (q := 190) hx (dc kX2_readCount_1 29 rfl) rfl 0 rfl rfl ?_
      refine w_gR (q := 193) hx (dc kX2_readCount_1 30 rfl) ff_X2_3 lk_X2_26 rfl (fun v22 => ?_)
      refine w_gI (q := 196) hx (dc kX2_readCount_1 31 rfl) ff_X1_2 lk_X2_144 rfl (fun v23 => ?_)
      refine j_iadd (q := 197) hx (dc kX2_readCount_1 32 rfl) rfl ?_
      refine j_iload_n (q := 198) hx (dc kX2_readCount_1 33 rfl) rfl 1 rfl rfl ?_
      refine w_cSVW (q := 201) (As := [vR x.2.2.2 v21, .int ((8 : Int32) + v23), .int x1]) (st := []) hx (dc kX2_readCount_1 34 rfl) (cI _ my_X11_put lm_X2_112 (by decide)) st_X11_put rfl (fun u hu => sX11_put _ _ _ _ _ _ _ hu) (Nat.zero_le _) rfl (fun h25 => ?_)
      refine j_aload_n (q := 202) hx (dc kX2_readCount_1 35 rfl) rfl 0 rfl rfl ?_
      refine w_gR (q := 205) hx (dc kX2_readCount_1 36 rfl) ff_X2_3 lk_X2_26 rfl (fun v26 => ?_)
      refine w_gR (q := 208) hx (dc kX2_readCount_1 37 rfl) ff_X1_8 lk_X2_154 rfl (fun v27 => ?_)
      refine j_aload_n (q := 209) hx (dc kX2_readCount_1 38 rfl) rfl 0 rfl rfl ?_
      refine w_gR (q := 212) hx (dc kX2_readCount_1 39 rfl) ff_X2_3 lk_X2_26 rfl (fun v28 => ?_)
      refine w_gI (q := 215) hx (dc kX2_readCount_1 40 rfl) ff_X1_2 lk_X2_144 rfl (fun v29 => ?_)
      refine j_iload (q := 217) hx (dc kX2_readCount_1 41 rfl) 4 rfl rfl ?_
      refine w_cSVW (q := 220) (As := [vR x.2.2.2 v27, .int v29, .int x4]) (st := []) hx (dc kX2_readCount_1 42 rfl) (cI _ my_X11_put lm_X2_112 (by decide)) st_X11_put rfl (fun u hu => sX11_put _ _ _ _ _ _ _ hu) (Nat.zero_le _) rfl (fun h31 => ?_)
      refine j_aload_n (q := 221) hx (dc kX2_readCount_1 43 rfl) rfl 0 rfl rfl ?_
      refine w_gR (q := 224) hx (dc kX2_readCount_1 44 rfl) ff_X2_3 lk_X2_26 rfl (fun v32 => ?_)
      refine w_gR (q := 227) hx (dc kX2_readCount_1 45 rfl) ff_X1_11 lk_X2_157 rfl (fun v33 => ?_)
      refine j_aload_n (q := 228) hx (dc kX2_readCount_1 46 rfl) rfl 0 rfl rfl ?_
      refine w_gR (q := 231) hx (dc kX2_readCount_1 47 rfl) ff_X2_3 lk_X2_26 rfl (fun v34 => ?_)
      refine w_gI (q := 234) hx (dc kX2_readCount_1 48 rfl) ff_X1_2 lk_X2_144 rfl (fun v35 => ?_)
      refine j_aload_n (q := 235) hx (dc kX2_readCount_1 49 rfl) rfl 0 rfl rfl ?_
      refine w_gR (q := 238) hx (dc kX2_readCount_1 50 rfl) ff_X2_3 lk_X2_26 rfl (fun v36 => ?_)
      refine w_gI (q := 241) hx (dc kX2_readCount_1 51 rfl) ff_X1_2 lk_X2_144 rfl (fun v37 => ?_)
      refine w_cSVW (q := 244) (As := [vR x.2.2.2 v33, .int v35, .int v37]) (st := []) hx (dc kX2_readCount_1 52 rfl) (cI _ my_X11_put lm_X2_112 (by decide)) st_X11_put rfl (fun u hu => sX11_put _ _ _ _ _ _ _ hu) (Nat.zero_le _) rfl (fun h39 => ?_)
      refine j_aload_n (q := 245) hx (dc kX2_readCount_1 53 rfl) rfl 0 rfl rfl ?_
      refine w_gR (q := 248) hx (dc kX2_readCount_1 54 rfl) ff_X2_4 lk_X2_30 rfl (fun v40 => ?_)
      refine j_aload_n (q := 249) hx (dc kX2_readCount_1 55 rfl) rfl 0 rfl rfl ?_
      refine w_gR (q := 252) hx (dc kX2_readCount_1 56 rfl) ff_X2_3 lk_X2_26 rfl (fun v41 => ?_)
      refine w_gI (q := 255) hx (dc kX2_readCount_1 57 rfl) ff_X1_2 lk_X2_144 rfl (fun v42 => ?_)
      refine j_iload_n (q := 256) hx (dc kX2_readCount_1 58 rfl) rfl 2 rfl rfl ?_
      refine j_iload_n (q := 257) hx (dc kX2_readCount_1 59 rfl) rfl 3 rfl rfl ?_
      refine w_cVIW (q := 260) (As := [.int v42, .int x2, .int x3]) (st := []) hx (dc kX2_readCount_1 60 rfl) cf5 (by decide) rfl (cI _ my_X5_file lm_X2_160 (by decide)) vs_X5_file rfl (fun u hu => sX5_file _ _ _ _ _ _ _ _ hu) (fun e => ite_ne (by unfold mX5_file at e; exact e)) (Nat.zero_le _) rfl (fun v43 h44 => ?_)
      refine j_pop (q := 261) hx (dc kX2_readCount_1 61 rfl) rfl rfl ?_
      refine j_aload_n (q := 262) hx (dc kX2_readCount_1 62 rfl) rfl 0 rfl rfl ?_
      refine w_gR (q := 265) hx (dc kX2_readCount_1 63 rfl) ff_X2_3 lk_X2_26 rfl (fun v45 => ?_)
      refine j_dup (q := 266) hx (dc kX2_readCount_2 0 rfl) (vR_cat _ _) rfl ?_
      refine w_gI (q := 269) hx (dc kX2_readCount_2 1 rfl) ff_X1_2 lk_X2_144 rfl (fun v46 => ?_)
      refine j_iconst (q := 270) (v := (1 : Int32)) hx (dc kX2_readCount_2 2 rfl) (by decide) rfl ?_
      refine j_iadd (q := 271) hx (dc kX2_readCount_2 3 rfl) rfl ?_
      refine w_sI (q := 274) hx (dc kX2_readCount_2 4 rfl) ff_X1_2 rfl lk_X2_144 (Or.inl rfl) rfl (fun h47 => ?_)
      refine j_aload_n (q := 275) hx (dc kX2_readCount_2 5 rfl) rfl 0 rfl rfl ?_
      refine j_bipush (q := 277) (v := (59 : Int32)) hx (dc kX2_readCount_2 6 rfl) (by decide) rfl ?_
      refine w_cVIW (q := 280) (As := [.int (59 : Int32)]) (st := []) hx (dc kX2_readCount_2 7 rfl) cf2 (by decide) rfl (cI _ my_X2_expect lm_X2_62 (by decide)) vs_X2_expect rfl (fun u hu => sX2_expect _ _ _ _ _ _ hu) (fun e => ite_ne (by unfold mX2_expect at e; exact e)) (Nat.zero_le _) rfl (fun v48 h49 => ?_)
      exact r_zW hx hR (dc kX2_readCount_2 8 rfl)
    · refine j_aload_n (q := 175) hx (dc kX2_readCount_1 21 rfl) rfl 0 rfl rfl ?_
      refine j_iconst (q := 176) (v := (4 : Int32)) hx (dc kX2_readCount_1 22 rfl) (by decide) rfl ?_
      refine w_cVIW (q := 179) (As := [.int (4 : Int32)]) (st := []) hx (dc kX2_readCount_1 23 rfl) cf2 (by decide) rfl (cI _ my_X2_fail lm_X2_92 (by decide)) vs_X2_fail rfl (fun u hu => sX2_fail _ _ _ _ _ _ hu) (fun e => ite_ne (by unfold mX2_fail at e; exact e)) (Nat.zero_le _) rfl (fun v50 h51 => ?_)
      exact r_zW hx hR (dc kX2_readCount_1 24 rfl)
  have hb103 : ∀ (x0 : Nat) (x1 : Int32) (x2 : Int32) (x3 : Int32) (x4 : Int32) (x5 : Int32) (h : Hp), J x 103 [(0, vR x.2.2.2 x0), (1, .int x1), (2, .int x2), (3, .int x3), (4, .int x4), (5, .int x5)] [] h (mX2_readCount_l103 x0 x1 x2 x3 x4 x5 h) (fun r => r = u) := by
    intro x0 x1 x2 x3 x4 x5 h
    have hB : ∀ (x4 : Int32) (x5 : Int32) (h : Hp), J x 103 [(0, vR x.2.2.2 x0), (1, .int x1), (2, .int x2), (3, .int x3), (4, .int x4), (5, .int x5)] [] h (mX2_readCount_l103f x0 x1 x2 x3 x4 x5 h) (TLo (S := (Int32 × Int32 × Hp)) x 103 (fun s => [(0, vR x.2.2.2 x0), (1, .int x1), (2, .int x2), (3, .int x3), (4, .int s.1), (5, .int s.2.1)]) [] (fun s => s.2.2) (fun r => r = u)) := by
      intro x4 x5 h
      have hb124 : ∀ (x0 : Nat) (x1 : Int32) (x2 : Int32) (x3 : Int32) (x4 : Int32) (x5 : Int32) (h : Hp), J x 124 [(0, vR x.2.2.2 x0), (1, .int x1), (2, .int x2), (3, .int x3), (4, .int x4), (5, .int x5)] [] h (mX2_readCount_b124 x0 x1 x2 x3 x4 x5 h) (TLo (S := (Int32 × Int32 × Hp)) x 103 (fun s => [(0, vR x.2.2.2 x0), (1, .int x1), (2, .int x2), (3, .int x3), (4, .int s.1), (5, .int s.2.1)]) [] (fun s => s.2.2) (fun r => r = u)) := by
        intro x0 x1 x2 x3 x4 x5 h
        unfold mX2_readCount_b124
        refine j_aload_n (q := 125) hx (dc kX2_readCount_1 0 rfl) rfl 0 rfl rfl ?_
        refine j_sipush (q := 128) (v := (261 : Int32)) hx (dc kX2_readCount_1 1 rfl) (by decide) rfl ?_
        refine w_cVIW (q := 131) (As := [.int (261 : Int32)]) (st := []) hx (dc kX2_readCount_1 2 rfl) cf2 (by decide) rfl (cI _ my_X2_expect lm_X2_62 (by decide)) vs_X2_expect rfl (fun u hu => sX2_expect _ _ _ _ _ _ hu) (fun e => ite_ne (by unfold mX2_expect at e; exact e)) (Nat.zero_le _) rfl (fun v52 h53 => ?_)
        refine j_if_eq (q := 134) (tgt := 153) hx (dc kX2_readCount_1 3 rfl) (by decide) Iff.rfl rfl ?_ ?_
        · refine j_exit ?_
          refine j_iconst (q := 154) (v := (0 : Int32)) hx (dc kX2_readCount_1 12 rfl) (by decide) rfl ?_
          exact r_cW hx (Or.inl rfl) hR (dc kX2_readCount_1 13 rfl)
        · refine j_aload_n (q := 135) hx (dc kX2_readCount_1 4 rfl) rfl 0 rfl rfl ?_
          refine j_aload_n (q := 136) hx (dc kX2_readCount_1 5 rfl) rfl 0 rfl rfl ?_
          refine w_gR (q := 139) hx (dc kX2_readCount_1 6 rfl) ff_X2_3 lk_X2_26 rfl (fun v54 => ?_)
          refine w_gI (q := 142) hx (dc kX2_readCount_1 7 rfl) ff_X1_2 lk_X2_144 rfl (fun v55 => ?_)
          refine j_iload (q := 144) hx (dc kX2_readCount_1 8 rfl) 5 rfl rfl ?_
          refine w_cSIR (q := 147) (As := [.int v55, .int x5]) (st := [vR x.2.2.2 x0]) hx (dc kX2_readCount_1 9 rfl) (cI _ my_X11_needSlot lm_X2_147 (by decide)) st_X11_needSlot rfl (fun u hu => sX11_needSlot _ _ _ _ _ _ hu) (sum_le (sum_R sum_nil) (by decide)) rfl (fun v56 => ?_)
          refine w_cVIW (q := 150) (As := [.int v56]) (st := []) hx (dc kX2_readCount_1 10 rfl) cf2 (by decide) rfl (cI _ my_X2_readInto lm_X2_151 (by decide)) vs_X2_readInto rfl (fun u hu => sX2_readInto _ _ _ _ _ _ hu) (fun e => ite_ne (by unfold mX2_readInto at e; exact e)) (Nat.zero_le _) rfl (fun v58 h59 => ?_)
          refine j_if_neS (q := 153) (tgt := 155) hx (dc kX2_readCount_1 11 rfl) (by decide) rfl ?_ ?_
          · refine j_iinc (q := 158) (l2 := [(0, vR x.2.2.2 x0), (1, .int x1), (2, .int x2), (3, .int x3), (5, .int x5)]) hx (dc kX2_readCount_1 14 rfl) 4 rfl (v := (1 : Int32)) (by decide) (hn 4 (by decide)) [0, 1, 2, 3, 5] rfl ⟨⟨show (0 : Nat) ≠ 4 by decide, Or.inl (show (0 : Nat) + 1 ≠ 4 by decide)⟩, ⟨⟨show (1 : Nat) ≠ 4 by decide, Or.inl (show (1 : Nat) + 1 ≠ 4 by decide)⟩, ⟨⟨show (2 : Nat) ≠ 4 by decide, Or.inl (show (2 : Nat) + 1 ≠ 4 by decide)⟩, ⟨⟨show (3 : Nat) ≠ 4 by decide, Or.inr rfl⟩, ⟨⟨show (5 : Nat) ≠ 4 by decide, Or.inl (show (5 : Nat) + 1 ≠ 4 by decide)⟩, trivial⟩⟩⟩⟩⟩ rfl ?_
            refine j_iinc (q := 161) (l2 := [(4, .int (x4 + (1 : Int32))), (0, vR x.2.2.2 x0), (1, .int x1), (2, .int x2), (3, .int x3)]) hx (dc kX2_readCount_1 15 rfl) 5 rfl (v := (1 : Int32)) (by decide) (hn 5 (by decide)) [0, 1, 2, 3, 4] rfl ⟨⟨show (4 : Nat) ≠ 5 by decide, Or.inr rfl⟩, ⟨⟨show (0 : Nat) ≠ 5 by decide, Or.inl (show (0 : Nat) + 1 ≠ 5 by decide)⟩, ⟨⟨show (1 : Nat) ≠ 5 by decide, Or.inl (show (1 : Nat) + 1 ≠ 5 by decide)⟩, ⟨⟨show (2 : Nat) ≠ 5 by decide, Or.inl (show (2 : Nat) + 1 ≠ 5 by decide)⟩, ⟨⟨show (3 : Nat) ≠ 5 by decide, Or.inl (show (3 : Nat) + 1 ≠ 5 by decide)⟩, trivial⟩⟩⟩⟩⟩ rfl ?_
            refine j_goto (q := 103) hx (dc kX2_readCount_1 16 rfl) (by decide) ?_
            exact j_back [2, 3, 4, 5, 1, 0] ((x4 + (1 : Int32)), (x5 + (1 : Int32)), h59) rfl rfl
          · refine j_exit ?_
            refine j_iconst (q := 154) (v := (0 : Int32)) hx (dc kX2_readCount_1 12 rfl) (by decide) rfl ?_
            exact r_cW hx (Or.inl rfl) hR (dc kX2_readCount_1 13 rfl)
      unfold mX2_readCount_l103f
      refine j_iload (q := 105) hx (dc kX2_readCount_0 55 rfl) 5 rfl rfl ?_
      refine j_iconst (q := 106) (v := (4 : Int32)) hx (dc kX2_readCount_0 56 rfl) (by decide) rfl ?_
      refine j_icmp_geS (q := 109) (tgt := 164) hx (dc kX2_readCount_0 57 rfl) (by decide) rfl ?_ ?_
      · refine j_exit ?_
        exact j_sub [0, 1, 2, 3, 4] rfl (hb164 x0 x1 x2 x3 x4 h)
      · refine j_iload (q := 111) hx (dc kX2_readCount_0 58 rfl) 5 rfl rfl ?_
        refine j_if_eq (q := 114) (tgt := 124) hx (dc kX2_readCount_0 59 rfl) (by decide) Iff.rfl rfl ?_ ?_
        · exact hb124 x0 x1 x2 x3 x4 x5 h
        · refine j_aload_n (q := 115) hx (dc kX2_readCount_0 60 rfl) rfl 0 rfl rfl ?_
          refine w_cVIR (q := 118) (As := []) (st := []) hx (dc kX2_readCount_0 61 rfl) cf2 (by decide) rfl (cI _ my_X2_nextKind lm_X2_46 (by decide)) vs_X2_nextKind rfl (fun u hu => sX2_nextKind _ _ _ _ _ hu) (fun e => ite_ne (by unfold mX2_nextKind at e; exact e)) (Nat.zero_le _) rfl (fun v60 => ?_)
          refine j_sipush (q := 121) (v := (261 : Int32)) hx (dc kX2_readCount_0 62 rfl) (by decide) rfl ?_
          refine j_icmp_neS (q := 124) (tgt := 164) hx (dc kX2_readCount_0 63 rfl) (by decide) rfl ?_ ?_
          · refine j_exit ?_
            exact j_sub [0, 1, 2, 3, 4] rfl (hb164 x0 x1 x2 x3 x4 h)
          · exact hb124 x0 x1 x2 x3 x4 x5 h
    exact j_loop (S := (Int32 × Int32 × Hp)) (lvf := fun s => [(0, vR x.2.2.2 x0), (1, .int x1), (2, .int x2), (3, .int x3), (4, .int s.1), (5, .int s.2.1)]) (hpf := fun s => s.2.2) (f := (fun s : (Int32 × Int32 × Hp) => mX2_readCount_l103f x0 x1 x2 x3 s.1 s.2.1 s.2.2)) (fun s => hB s.1 s.2.1 s.2.2) (x4, x5, h)
  unfold mX2_readCount
  refine J.ckd fun hck => ?_
  refine j_aload_n (q := 1) hx (dc kX2_readCount_0 0 rfl) rfl 0 rfl rfl ?_
  refine w_gR (q := 4) hx (dc kX2_readCount_0 1 rfl) ff_X2_3 lk_X2_26 rfl (fun v1 => ?_)
  refine w_gI (q := 7) hx (dc kX2_readCount_0 2 rfl) ff_X1_2 lk_X2_144 rfl (fun v2 => ?_)
  refine j_iconst (q := 8) (v := (5 : Int32)) hx (dc kX2_readCount_0 3 rfl) (by decide) rfl ?_
  refine j_icmp_lt (q := 11) (tgt := 17) hx (dc kX2_readCount_0 4 rfl) (by decide) Iff.rfl rfl ?_ ?_
  · refine j_aload_n (q := 18) hx (dc kX2_readCount_0 9 rfl) rfl 0 rfl rfl ?_
    refine j_dup (q := 19) hx (dc kX2_readCount_0 10 rfl) (vR_cat _ _) rfl ?_
    refine w_gI (q := 22) hx (dc kX2_readCount_0 11 rfl) ff_X2_5 lk_X2_65 rfl (fun v3 => ?_)
    refine j_iconst (q := 23) (v := (1 : Int32)) hx (dc kX2_readCount_0 12 rfl) (by decide) rfl ?_
    refine j_iadd (q := 24) hx (dc kX2_readCount_0 13 rfl) rfl ?_
    refine w_sI (q := 27) hx (dc kX2_readCount_0 14 rfl) ff_X2_5 rfl lk_X2_65 (Or.inl rfl) rfl (fun h4 => ?_)
    refine j_aload_n (q := 28) hx (dc kX2_readCount_0 15 rfl) rfl 0 rfl rfl ?_
    refine w_cVIW (q := 31) (As := []) (st := []) hx (dc kX2_readCount_0 16 rfl) cf2 (by decide) rfl (cI _ my_X2_newName lm_X2_98 (by decide)) vs_X2_newName rfl (fun u hu => sX2_newName _ _ _ _ _ hu) (fun e => ite_ne (by unfold mX2_newName at e; exact e)) (Nat.zero_le _) rfl (fun v5 h6 => ?_)
    refine j_if_neS (q := 34) (tgt := 36) hx (dc kX2_readCount_0 17 rfl) (by decide) rfl ?_ ?_
    · refine j_aload_n (q := 37) hx (dc kX2_readCount_0 20 rfl) rfl 0 rfl rfl ?_
      refine w_gI (q := 40) hx (dc kX2_readCount_0 21 rfl) ff_X2_6 lk_X2_101 rfl (fun v7 => ?_)
      refine j_istore_n (q := 41) (i := 1) (l2 := [(0, vR x.2.2.2 x0)]) hx (dc kX2_readCount_0 22 rfl) rfl (hn 1 (by decide)) [0] rfl ⟨⟨show (0 : Nat) ≠ 1 by decide, Or.inr (vR_cat _ _)⟩, trivial⟩ rfl ?_
      refine j_aload_n (q := 42) hx (dc kX2_readCount_0 23 rfl) rfl 1 rfl rfl ?_
      refine j_sipush (q := 45) (v := (259 : Int32)) hx (dc kX2_readCount_0 24 rfl) (by decide) rfl ?_
      refine w_cVIW (q := 48) (As := [.int (259 : Int32)]) (st := []) hx (dc kX2_readCount_0 25 rfl) cf2 (by decide) rfl (cI _ my_X2_expect lm_X2_62 (by decide)) vs_X2_expect rfl (fun u hu => sX2_expect _ _ _ _ _ _ hu) (fun e => ite_ne (by unfold mX2_expect at e; exact e)) (Nat.zero_le _) rfl (fun v8 h9 => ?_)
      refine j_if_eq (q := 51) (tgt := 62) hx (dc kX2_readCount_0 26 rfl) (by decide) Iff.rfl rfl ?_ ?_
      · refine j_iconst (q := 63) (v := (0 : Int32)) hx (dc kX2_readCount_0 32 rfl) (by decide) rfl ?_
        exact r_cW hx (Or.inl rfl) hR (dc kX2_readCount_0 33 rfl)
      · refine j_aload_n (q := 52) hx (dc kX2_readCount_0 27 rfl) rfl 1 rfl rfl ?_
        refine j_iconst (q := 53) (v := (0 : Int32)) hx (dc kX2_readCount_0 28 rfl) (by decide) rfl ?_
        refine j_sipush (q := 56) (v := (999 : Int32)) hx (dc kX2_readCount_0 29 rfl) (by decide) rfl ?_
        refine w_cVIW (q := 59) (As := [.int (0 : Int32), .int (999 : Int32)]) (st := []) hx (dc kX2_readCount_0 30 rfl) cf2 (by decide) rfl (cI _ my_X2_number lm_X2_104 (by decide)) vs_X2_number rfl (fun u hu => sX2_number _ _ _ _ _ _ _ hu) (fun e => ite_ne (by unfold mX2_number at e; exact e)) (Nat.zero_le _) rfl (fun v10 h11 => ?_)
        refine j_if_neS (q := 62) (tgt := 64) hx (dc kX2_readCount_0 31 rfl) (by decide) rfl ?_ ?_
        · refine j_aload_n (q := 65) hx (dc kX2_readCount_0 34 rfl) rfl 1 rfl rfl ?_
          refine w_gI (q := 68) hx (dc kX2_readCount_0 35 rfl) ff_X2_6 lk_X2_101 rfl (fun v12 => ?_)
          refine j_istore_n (q := 69) (i := 2) (l2 := [(1, .int v7), (0, vR x.2.2.2 x0)]) hx (dc kX2_readCount_0 36 rfl) rfl (hn 2 (by decide)) [0, 1] rfl ⟨⟨show (1 : Nat) ≠ 2 by decide, Or.inr rfl⟩, ⟨⟨show (0 : Nat) ≠ 2 by decide, Or.inl (show (0 : Nat) + 1 ≠ 2 by decide)⟩, trivial⟩⟩ rfl ?_
          refine j_aload_n (q := 70) hx (dc kX2_readCount_0 37 rfl) rfl 2 rfl rfl ?_
          refine j_sipush (q := 73) (v := (260 : Int32)) hx (dc kX2_readCount_0 38 rfl) (by decide) rfl ?_
          refine w_cVIW (q := 76) (As := [.int (260 : Int32)]) (st := []) hx (dc kX2_readCount_0 39 rfl) cf2 (by decide) rfl (cI _ my_X2_expect lm_X2_62 (by decide)) vs_X2_expect rfl (fun u hu => sX2_expect _ _ _ _ _ _ hu) (fun e => ite_ne (by unfold mX2_expect at e; exact e)) (Nat.zero_le _) rfl (fun v13 h14 => ?_)
          refine j_if_eq (q := 79) (tgt := 90) hx (dc kX2_readCount_0 40 rfl) (by decide) Iff.rfl rfl ?_ ?_
          · refine j_iconst (q := 91) (v := (0 : Int32)) hx (dc kX2_readCount_0 46 rfl) (by decide) rfl ?_
            exact r_cW hx (Or.inl rfl) hR (dc kX2_readCount_0 47 rfl)
          · refine j_aload_n (q := 80) hx (dc kX2_readCount_0 41 rfl) rfl 2 rfl rfl ?_
            refine j_iconst (q := 81) (v := (0 : Int32)) hx (dc kX2_readCount_0 42 rfl) (by decide) rfl ?_
            refine j_sipush (q := 84) (v := (999 : Int32)) hx (dc kX2_readCount_0 43 rfl) (by decide) rfl ?_
            refine w_cVIW (q := 87) (As := [.int (0 : Int32), .int (999 : Int32)]) (st := []) hx (dc kX2_readCount_0 44 rfl) cf2 (by decide) rfl (cI _ my_X2_number lm_X2_104 (by decide)) vs_X2_number rfl (fun u hu => sX2_number _ _ _ _ _ _ _ hu) (fun e => ite_ne (by unfold mX2_number at e; exact e)) (Nat.zero_le _) rfl (fun v15 h16 => ?_)
            refine j_if_neS (q := 90) (tgt := 92) hx (dc kX2_readCount_0 45 rfl) (by decide) rfl ?_ ?_
            · refine j_aload_n (q := 93) hx (dc kX2_readCount_0 48 rfl) rfl 2 rfl rfl ?_
              refine w_gI (q := 96) hx (dc kX2_readCount_0 49 rfl) ff_X2_6 lk_X2_101 rfl (fun v17 => ?_)
              refine j_istore_n (q := 97) (i := 3) (l2 := [(2, .int v12), (1, .int v7), (0, vR x.2.2.2 x0)]) hx (dc kX2_readCount_0 50 rfl) rfl (hn 3 (by decide)) [0, 1, 2] rfl ⟨⟨show (2 : Nat) ≠ 3 by decide, Or.inr rfl⟩, ⟨⟨show (1 : Nat) ≠ 3 by decide, Or.inl (show (1 : Nat) + 1 ≠ 3 by decide)⟩, ⟨⟨show (0 : Nat) ≠ 3 by decide, Or.inl (show (0 : Nat) + 1 ≠ 3 by decide)⟩, trivial⟩⟩⟩ rfl ?_
              refine j_iconst (q := 98) (v := (0 : Int32)) hx (dc kX2_readCount_0 51 rfl) (by decide) rfl ?_
              refine j_istore (q := 100) (i := 4) (l2 := [(3, .int v17), (2, .int v12), (1, .int v7), (0, vR x.2.2.2 x0)]) hx (dc kX2_readCount_0 52 rfl) (hn 4 (by decide)) [0, 1, 2, 3] rfl ⟨⟨show (3 : Nat) ≠ 4 by decide, Or.inr rfl⟩, ⟨⟨show (2 : Nat) ≠ 4 by decide, Or.inl (show (2 : Nat) + 1 ≠ 4 by decide)⟩, ⟨⟨show (1 : Nat) ≠ 4 by decide, Or.inl (show (1 : Nat) + 1 ≠ 4 by decide)⟩, ⟨⟨show (0 : Nat) ≠ 4 by decide, Or.inl (show (0 : Nat) + 1 ≠ 4 by decide)⟩, trivial⟩⟩⟩⟩ rfl ?_
              refine j_iconst (q := 101) (v := (0 : Int32)) hx (dc kX2_readCount_0 53 rfl) (by decide) rfl ?_
              refine j_istore (q := 103) (i := 5) (l2 := [(4, .int (0 : Int32)), (3, .int v17), (2, .int v12), (1, .int v7), (0, vR x.2.2.2 x0)]) hx (dc kX2_readCount_0 54 rfl) (hn 5 (by decide)) [0, 1, 2, 3, 4] rfl ⟨⟨show (4 : Nat) ≠ 5 by decide, Or.inr rfl⟩, ⟨⟨show (3 : Nat) ≠ 5 by decide, Or.inl (show (3 : Nat) + 1 ≠ 5 by decide)⟩, ⟨⟨show (2 : Nat) ≠ 5 by decide, Or.inl (show (2 : Nat) + 1 ≠ 5 by decide)⟩, ⟨⟨show (1 : Nat) ≠ 5 by decide, Or.inl (show (1 : Nat) + 1 ≠ 5 by decide)⟩, ⟨⟨show (0 : Nat) ≠ 5 by decide, Or.inl (show (0 : Nat) + 1 ≠ 5 by decide)⟩, trivial⟩⟩⟩⟩⟩ rfl ?_
              exact j_sub [5, 4, 3, 2, 1, 0] rfl (hb103 x0 v7 v12 v17 (0 : Int32) (0 : Int32) h16)
            · refine j_iconst (q := 91) (v := (0 : Int32)) hx (dc kX2_readCount_0 46 rfl) (by decide) rfl ?_
              exact r_cW hx (Or.inl rfl) hR (dc kX2_readCount_0 47 rfl)
        · refine j_iconst (q := 63) (v := (0 : Int32)) hx (dc kX2_readCount_0 32 rfl) (by decide) rfl ?_
          exact r_cW hx (Or.inl rfl) hR (dc kX2_readCount_0 33 rfl)
    · refine j_iconst (q := 35) (v := (0 : Int32)) hx (dc kX2_readCount_0 18 rfl) (by decide) rfl ?_
      exact r_cW hx (Or.inl rfl) hR (dc kX2_readCount_0 19 rfl)
  · refine j_aload_n (q := 12) hx (dc kX2_readCount_0 5 rfl) rfl 0 rfl rfl ?_
    refine j_iconst (q := 13) (v := (4 : Int32)) hx (dc kX2_readCount_0 6 rfl) (by decide) rfl ?_
    refine w_cVIW (q := 16) (As := [.int (4 : Int32)]) (st := []) hx (dc kX2_readCount_0 7 rfl) cf2 (by decide) rfl (cI _ my_X2_fail lm_X2_92 (by decide)) vs_X2_fail rfl (fun u hu => sX2_fail _ _ _ _ _ _ hu) (fun e => ite_ne (by unfold mX2_fail at e; exact e)) (Nat.zero_le _) rfl (fun v62 h63 => ?_)
    exact r_zW hx hR (dc kX2_readCount_0 8 rfl)

set_option maxHeartbeats 4000000 in
set_option maxRecDepth 100000 in
theorem sX2_knownCount (l : Launch) (w : Wd) (x0 : Nat) (h : Hp) (u : (Int32 × Hp)) (hK : mX2_knownCount x0 h = some u) : M1 l w mi_X2_knownCount 2 [vR w x0] h u.2 (some (.int u.1)) := by
  refine M1.of (own := RX2) (T := fun _ r => r = u) hK (by decide +kernel) rfl (by first | (simp only [lg_lenR, lg_lenI, lg_lenL, lg_len0]; decide) | decide) (fun x hx hnl hhf hl hw hret hnm hQ h0e => ⟨?_, rfl⟩)
  subst hw
  subst hl
  have hR : Rt x h u.2 (some (.int u.1)) ((some .boolean)) := ⟨h0e, hhf, hret, hQ⟩
  have hn : ∀ i, i < 1 → i < x.2.2.1.1.1 := fun i hi => by rw [hnl]; exact hi
  have e0 : lv_args 0 [vR x.2.2.2 x0] = [(0, vR x.2.2.2 x0)] := by simp only [lv_argsR, lv_argsI, lv_argsL, lv_args0]
  rw [e0]
  unfold mX2_knownCount
  refine J.ckd fun hck => ?_
  refine j_aload_n (q := 1) hx (dc kX2_knownCount_0 0 rfl) rfl 0 rfl rfl ?_
  refine w_cVIR (q := 4) (As := []) (st := []) hx (dc kX2_knownCount_0 1 rfl) cf2 (by decide) rfl (cI _ my_X2_nextKind lm_X2_46 (by decide)) vs_X2_nextKind rfl (fun u hu => sX2_nextKind _ _ _ _ _ hu) (fun e => ite_ne (by unfold mX2_nextKind at e; exact e)) (Nat.zero_le _) rfl (fun v1 => ?_)
  refine j_iconst (q := 5) (v := (2 : Int32)) hx (dc kX2_knownCount_0 2 rfl) (by decide) rfl ?_
  refine j_icmp_eq (q := 8) (tgt := 14) hx (dc kX2_knownCount_0 3 rfl) (by decide) Iff.rfl rfl ?_ ?_
  · refine j_aload_n (q := 15) hx (dc kX2_knownCount_0 8 rfl) rfl 0 rfl rfl ?_
    refine j_aload_n (q := 16) hx (dc kX2_knownCount_0 9 rfl) rfl 0 rfl rfl ?_
    refine w_gR (q := 19) hx (dc kX2_knownCount_0 10 rfl) ff_X2_3 lk_X2_26 rfl (fun v3 => ?_)
    refine j_aload_n (q := 20) hx (dc kX2_knownCount_0 11 rfl) rfl 0 rfl rfl ?_
    refine w_cVIR (q := 23) (As := []) (st := [vR x.2.2.2 v3, vR x.2.2.2 x0]) hx (dc kX2_knownCount_0 12 rfl) cf2 (by decide) rfl (cI _ my_X2_nextValue lm_X2_222 (by decide)) vs_X2_nextValue rfl (fun u hu => sX2_nextValue _ _ _ _ _ hu) (fun e => ite_ne (by unfold mX2_nextValue at e; exact e)) (sum_le (sum_R (sum_R sum_nil)) (by decide)) rfl (fun v4 => ?_)
    refine w_cVIR (q := 26) (As := [.int v4]) (st := [vR x.2.2.2 x0]) hx (dc kX2_knownCount_0 13 rfl) cf1 (by decide) rfl (cI _ my_X1_countNamed lm_X2_229 (by decide)) vs_X1_countNamed rfl (fun u hu => sX1_countNamed _ _ _ _ _ _ hu) (fun e => ite_ne (by unfold mX1_countNamed at e; exact e)) (sum_le (sum_R sum_nil) (by decide)) rfl (fun v6 => ?_)
    refine w_sI (q := 29) hx (dc kX2_knownCount_0 14 rfl) ff_X2_6 rfl lk_X2_101 (Or.inl rfl) rfl (fun h8 => ?_)
    refine j_aload_n (q := 30) hx (dc kX2_knownCount_0 15 rfl) rfl 0 rfl rfl ?_
    refine w_gI (q := 33) hx (dc kX2_knownCount_0 16 rfl) ff_X2_6 lk_X2_101 rfl (fun v9 => ?_)
    refine j_if_geS (q := 36) (tgt := 42) hx (dc kX2_knownCount_0 17 rfl) (by decide) rfl ?_ ?_
    · refine j_aload_n (q := 43) hx (dc kX2_knownCount_0 22 rfl) rfl 0 rfl rfl ?_
      refine j_dup (q := 44) hx (dc kX2_knownCount_0 23 rfl) (vR_cat _ _) rfl ?_
      refine w_gI (q := 47) hx (dc kX2_knownCount_0 24 rfl) ff_X2_5 lk_X2_65 rfl (fun v10 => ?_)
      refine j_iconst (q := 48) (v := (1 : Int32)) hx (dc kX2_knownCount_0 25 rfl) (by decide) rfl ?_
      refine j_iadd (q := 49) hx (dc kX2_knownCount_0 26 rfl) rfl ?_
      refine w_sI (q := 52) hx (dc kX2_knownCount_0 27 rfl) ff_X2_5 rfl lk_X2_65 (Or.inl rfl) rfl (fun h11 => ?_)
      refine j_iconst (q := 53) (v := (1 : Int32)) hx (dc kX2_knownCount_0 28 rfl) (by decide) rfl ?_
      exact r_cW hx (Or.inr rfl) hR (dc kX2_knownCount_0 29 rfl)
    · refine j_aload_n (q := 37) hx (dc kX2_knownCount_0 18 rfl) rfl 0 rfl rfl ?_
      refine j_iconst (q := 38) (v := (3 : Int32)) hx (dc kX2_knownCount_0 19 rfl) (by decide) rfl ?_
      refine w_cVIW (q := 41) (As := [.int (3 : Int32)]) (st := []) hx (dc kX2_knownCount_0 20 rfl) cf2 (by decide) rfl (cI _ my_X2_fail lm_X2_92 (by decide)) vs_X2_fail rfl (fun u hu => sX2_fail _ _ _ _ _ _ hu) (fun e => ite_ne (by unfold mX2_fail at e; exact e)) (Nat.zero_le _) rfl (fun v12 h13 => ?_)
      exact r_zW hx hR (dc kX2_knownCount_0 21 rfl)
  · refine j_aload_n (q := 9) hx (dc kX2_knownCount_0 4 rfl) rfl 0 rfl rfl ?_
    refine j_iconst (q := 10) (v := (1 : Int32)) hx (dc kX2_knownCount_0 5 rfl) (by decide) rfl ?_
    refine w_cVIW (q := 13) (As := [.int (1 : Int32)]) (st := []) hx (dc kX2_knownCount_0 6 rfl) cf2 (by decide) rfl (cI _ my_X2_fail lm_X2_92 (by decide)) vs_X2_fail rfl (fun u hu => sX2_fail _ _ _ _ _ _ hu) (fun e => ite_ne (by unfold mX2_fail at e; exact e)) (Nat.zero_le _) rfl (fun v14 h15 => ?_)
    exact r_zW hx hR (dc kX2_knownCount_0 7 rfl)

set_option maxHeartbeats 4000000 in
set_option maxRecDepth 100000 in
theorem sX2_readPlea (l : Launch) (w : Wd) (x0 : Nat) (h : Hp) (u : (Int32 × Hp)) (hK : mX2_readPlea x0 h = some u) : M1 l w mi_X2_readPlea 45 [vR w x0] h u.2 (some (.int u.1)) := by
  refine M1.of (own := RX2) (T := fun _ r => r = u) hK (by decide +kernel) rfl (by first | (simp only [lg_lenR, lg_lenI, lg_lenL, lg_len0]; decide) | decide) (fun x hx hnl hhf hl hw hret hnm hQ h0e => ⟨?_, rfl⟩)
  subst hw
  subst hl
  have hR : Rt x h u.2 (some (.int u.1)) ((some .boolean)) := ⟨h0e, hhf, hret, hQ⟩
  have hn : ∀ i, i < 1 → i < x.2.2.1.1.1 := fun i hi => by rw [hnl]; exact hi
  have e0 : lv_args 0 [vR x.2.2.2 x0] = [(0, vR x.2.2.2 x0)] := by simp only [lv_argsR, lv_argsI, lv_argsL, lv_args0]
  rw [e0]
  unfold mX2_readPlea
  refine J.ckd fun hck => ?_
  refine j_aload_n (q := 1) hx (dc kX2_readPlea_0 0 rfl) rfl 0 rfl rfl ?_
  refine w_gR (q := 4) hx (dc kX2_readPlea_0 1 rfl) ff_X2_3 lk_X2_26 rfl (fun v1 => ?_)
  refine w_gI (q := 7) hx (dc kX2_readPlea_0 2 rfl) ff_X1_4 lk_X2_164 rfl (fun v2 => ?_)
  refine j_bipush (q := 9) (v := (6 : Int32)) hx (dc kX2_readPlea_0 3 rfl) (by decide) rfl ?_
  refine j_icmp_lt (q := 12) (tgt := 18) hx (dc kX2_readPlea_0 4 rfl) (by decide) Iff.rfl rfl ?_ ?_
  · refine j_aload_n (q := 19) hx (dc kX2_readPlea_0 9 rfl) rfl 0 rfl rfl ?_
    refine j_dup (q := 20) hx (dc kX2_readPlea_0 10 rfl) (vR_cat _ _) rfl ?_
    refine w_gI (q := 23) hx (dc kX2_readPlea_0 11 rfl) ff_X2_5 lk_X2_65 rfl (fun v3 => ?_)
    refine j_iconst (q := 24) (v := (1 : Int32)) hx (dc kX2_readPlea_0 12 rfl) (by decide) rfl ?_
    refine j_iadd (q := 25) hx (dc kX2_readPlea_0 13 rfl) rfl ?_
    refine w_sI (q := 28) hx (dc kX2_readPlea_0 14 rfl) ff_X2_5 rfl lk_X2_65 (Or.inl rfl) rfl (fun h4 => ?_)
    refine j_aload_n (q := 29) hx (dc kX2_readPlea_0 15 rfl) rfl 0 rfl rfl ?_
    refine w_cVIW (q := 32) (As := []) (st := []) hx (dc kX2_readPlea_0 16 rfl) cf2 (by decide) rfl (cI _ my_X2_knownCount lm_X2_167 (by decide)) vs_X2_knownCount rfl (fun u hu => sX2_knownCount _ _ _ _ _ hu) (fun e => ite_ne (by unfold mX2_knownCount at e; exact e)) (Nat.zero_le _) rfl (fun v5 h6 => ?_)
    refine j_if_neS (q := 35) (tgt := 37) hx (dc kX2_readPlea_0 17 rfl) (by decide) rfl ?_ ?_
    · refine j_aload_n (q := 38) hx (dc kX2_readPlea_0 20 rfl) rfl 0 rfl rfl ?_
      refine w_gR (q := 41) hx (dc kX2_readPlea_0 21 rfl) ff_X2_3 lk_X2_26 rfl (fun v7 => ?_)
      refine w_gR (q := 44) hx (dc kX2_readPlea_0 22 rfl) ff_X1_9 lk_X2_170 rfl (fun v8 => ?_)
      refine j_aload_n (q := 45) hx (dc kX2_readPlea_0 23 rfl) rfl 0 rfl rfl ?_
      refine w_gR (q := 48) hx (dc kX2_readPlea_0 24 rfl) ff_X2_3 lk_X2_26 rfl (fun v9 => ?_)
      refine w_gI (q := 51) hx (dc kX2_readPlea_0 25 rfl) ff_X1_4 lk_X2_164 rfl (fun v10 => ?_)
      refine j_aload_n (q := 52) hx (dc kX2_readPlea_0 26 rfl) rfl 0 rfl rfl ?_
      refine w_gI (q := 55) hx (dc kX2_readPlea_0 27 rfl) ff_X2_6 lk_X2_101 rfl (fun v11 => ?_)
      refine w_cSVW (q := 58) (As := [vR x.2.2.2 v8, .int v10, .int v11]) (st := []) hx (dc kX2_readPlea_0 28 rfl) (cI _ my_X11_put lm_X2_112 (by decide)) st_X11_put rfl (fun u hu => sX11_put _ _ _ _ _ _ _ hu) (Nat.zero_le _) rfl (fun h13 => ?_)
      refine j_aload_n (q := 59) hx (dc kX2_readPlea_0 29 rfl) rfl 0 rfl rfl ?_
      refine j_bipush (q := 61) (v := (20 : Int32)) hx (dc kX2_readPlea_0 30 rfl) (by decide) rfl ?_
      refine j_aload_n (q := 62) hx (dc kX2_readPlea_0 31 rfl) rfl 0 rfl rfl ?_
      refine w_gR (q := 65) hx (dc kX2_readPlea_0 32 rfl) ff_X2_3 lk_X2_26 rfl (fun v14 => ?_)
      refine w_gI (q := 68) hx (dc kX2_readPlea_0 33 rfl) ff_X1_4 lk_X2_164 rfl (fun v15 => ?_)
      refine j_iadd (q := 69) hx (dc kX2_readPlea_0 34 rfl) rfl ?_
      refine w_cVIW (q := 72) (As := [.int ((20 : Int32) + v15)]) (st := []) hx (dc kX2_readPlea_0 35 rfl) cf2 (by decide) rfl (cI _ my_X2_readInto lm_X2_151 (by decide)) vs_X2_readInto rfl (fun u hu => sX2_readInto _ _ _ _ _ _ hu) (fun e => ite_ne (by unfold mX2_readInto at e; exact e)) (Nat.zero_le _) rfl (fun v16 h17 => ?_)
      refine j_if_neS (q := 75) (tgt := 77) hx (dc kX2_readPlea_0 36 rfl) (by decide) rfl ?_ ?_
      · refine j_aload_n (q := 78) hx (dc kX2_readPlea_0 39 rfl) rfl 0 rfl rfl ?_
        refine w_gR (q := 81) hx (dc kX2_readPlea_0 40 rfl) ff_X2_3 lk_X2_26 rfl (fun v18 => ?_)
        refine j_dup (q := 82) hx (dc kX2_readPlea_0 41 rfl) (vR_cat _ _) rfl ?_
        refine w_gI (q := 85) hx (dc kX2_readPlea_0 42 rfl) ff_X1_4 lk_X2_164 rfl (fun v19 => ?_)
        refine j_iconst (q := 86) (v := (1 : Int32)) hx (dc kX2_readPlea_0 43 rfl) (by decide) rfl ?_
        refine j_iadd (q := 87) hx (dc kX2_readPlea_0 44 rfl) rfl ?_
        refine w_sI (q := 90) hx (dc kX2_readPlea_0 45 rfl) ff_X1_4 rfl lk_X2_164 (Or.inl rfl) rfl (fun h20 => ?_)
        refine j_aload_n (q := 91) hx (dc kX2_readPlea_0 46 rfl) rfl 0 rfl rfl ?_
        refine j_bipush (q := 93) (v := (59 : Int32)) hx (dc kX2_readPlea_0 47 rfl) (by decide) rfl ?_
        refine w_cVIW (q := 96) (As := [.int (59 : Int32)]) (st := []) hx (dc kX2_readPlea_0 48 rfl) cf2 (by decide) rfl (cI _ my_X2_expect lm_X2_62 (by decide)) vs_X2_expect rfl (fun u hu => sX2_expect _ _ _ _ _ _ hu) (fun e => ite_ne (by unfold mX2_expect at e; exact e)) (Nat.zero_le _) rfl (fun v21 h22 => ?_)
        exact r_zW hx hR (dc kX2_readPlea_0 49 rfl)
      · refine j_iconst (q := 76) (v := (0 : Int32)) hx (dc kX2_readPlea_0 37 rfl) (by decide) rfl ?_
        exact r_cW hx (Or.inl rfl) hR (dc kX2_readPlea_0 38 rfl)
    · refine j_iconst (q := 36) (v := (0 : Int32)) hx (dc kX2_readPlea_0 18 rfl) (by decide) rfl ?_
      exact r_cW hx (Or.inl rfl) hR (dc kX2_readPlea_0 19 rfl)
  · refine j_aload_n (q := 13) hx (dc kX2_readPlea_0 5 rfl) rfl 0 rfl rfl ?_
    refine j_iconst (q := 14) (v := (4 : Int32)) hx (dc kX2_readPlea_0 6 rfl) (by decide) rfl ?_
    refine w_cVIW (q := 17) (As := [.int (4 : Int32)]) (st := []) hx (dc kX2_readPlea_0 7 rfl) cf2 (by decide) rfl (cI _ my_X2_fail lm_X2_92 (by decide)) vs_X2_fail rfl (fun u hu => sX2_fail _ _ _ _ _ _ hu) (fun e => ite_ne (by unfold mX2_fail at e; exact e)) (Nat.zero_le _) rfl (fun v23 h24 => ?_)
    exact r_zW hx hR (dc kX2_readPlea_0 8 rfl)

set_option maxHeartbeats 4000000 in
set_option maxRecDepth 100000 in
theorem sX5_tell (l : Launch) (w : Wd) (x0 : Nat) (x1 : Int32) (x2 : Int32) (x3 : Int32) (h : Hp) (u : Hp) (hK : mX5_tell x0 x1 x2 x3 h = some u) : M1 l w mi_X5_tell 2 [vR w x0, .int x1, .int x2, .int x3] h u (none) := by
  refine M1.of (own := RX5) (T := fun _ r => r = u) hK (by decide +kernel) rfl (by first | (simp only [lg_lenR, lg_lenI, lg_lenL, lg_len0]; decide) | decide) (fun x hx hnl hhf hl hw hret hnm hQ h0e => ⟨?_, rfl⟩)
  subst hw
  subst hl
  have hR : Rt x h u (none) (none) := ⟨h0e, hhf, hret, hQ⟩
  have hn : ∀ i, i < 5 → i < x.2.2.1.1.1 := fun i hi => by rw [hnl]; exact hi
  have e0 : lv_args 0 [vR x.2.2.2 x0, .int x1, .int x2, .int x3] = [(0, vR x.2.2.2 x0), (1, .int x1), (2, .int x2), (3, .int x3)] := by simp only [lv_argsR, lv_argsI, lv_argsL, lv_args0]
  rw [e0]
  have hb82 : ∀ (t0 : Nat) (t1 : Int32) (t2 : Int32) (h : Hp), J x 82 [] [.int t2, .int t1, vR x.2.2.2 t0] h (mX5_tell_b82 t0 t1 t2 h) (fun r => r = u) := by
    intro t0 t1 t2 h
    unfold mX5_tell_b82
    refine w_cSVW (q := 85) (As := [vR x.2.2.2 t0, .int t1, .int t2]) (st := []) hx (dc kX5_tell_0 47 rfl) (cI _ my_X11_put lm_X5_77 (by decide)) st_X11_put rfl (fun u hu => sX11_put _ _ _ _ _ _ _ hu) (Nat.zero_le _) rfl (fun h12 => ?_)
    exact r_vW hx hR (dc kX5_tell_0 48 rfl)
  have hb42 : ∀ (x0 : Nat) (x1 : Int32) (x3 : Int32) (x4 : Int32) (t0 : Nat) (t1 : Int32) (t2 : Int32) (h : Hp), J x 42 [(0, vR x.2.2.2 x0), (1, .int x1), (3, .int x3), (4, .int x4)] [.int t2, .int t1, vR x.2.2.2 t0] h (mX5_tell_b42 x0 x1 x3 x4 t0 t1 t2 h) (fun r => r = u) := by
    intro x0 x1 x3 x4 t0 t1 t2 h
    unfold mX5_tell_b42
    refine w_cSVW (q := 45) (As := [vR x.2.2.2 t0, .int t1, .int t2]) (st := []) hx (dc kX5_tell_0 25 rfl) (cI _ my_X11_put lm_X5_77 (by decide)) st_X11_put rfl (fun u hu => sX11_put _ _ _ _ _ _ _ hu) (Nat.zero_le _) rfl (fun h6 => ?_)
    refine j_aload_n (q := 46) hx (dc kX5_tell_0 26 rfl) rfl 0 rfl rfl ?_
    refine w_gR (q := 49) hx (dc kX5_tell_0 27 rfl) ff_X5_14 lk_X5_27 rfl (fun v7 => ?_)
    refine j_iload_n (q := 50) hx (dc kX5_tell_0 28 rfl) rfl 1 rfl rfl ?_
    refine j_iload_n (q := 51) hx (dc kX5_tell_0 29 rfl) rfl 2 rfl rfl ?_
    refine j_iconst (q := 52) (v := (1 : Int32)) hx (dc kX5_tell_0 30 rfl) (by decide) rfl ?_
    refine j_icmp_neS (q := 55) (tgt := 69) hx (dc kX5_tell_0 31 rfl) (by decide) rfl ?_ ?_
    · refine j_aload_n (q := 70) hx (dc kX5_tell_0 39 rfl) rfl 0 rfl rfl ?_
      refine w_gR (q := 73) hx (dc kX5_tell_0 40 rfl) ff_X5_14 lk_X5_27 rfl (fun v8 => ?_)
      refine j_iload_n (q := 74) hx (dc kX5_tell_0 41 rfl) rfl 1 rfl rfl ?_
      refine w_cSIR (q := 77) (As := [vR x.2.2.2 v8, .int x1]) (st := [.int x1, vR x.2.2.2 v7]) hx (dc kX5_tell_0 42 rfl) (cI _ my_X11_at lm_X5_73 (by decide)) st_X11_at rfl (fun u hu => sX11_at _ _ _ _ _ _ hu) (sum_le (sum_I (sum_R sum_nil)) (by decide)) rfl (fun v9 => ?_)
      refine j_iload (q := 79) hx (dc kX5_tell_0 43 rfl) 3 rfl rfl ?_
      refine j_iconst (q := 80) (v := (-1 : Int32)) hx (dc kX5_tell_0 44 rfl) (by decide) rfl ?_
      refine j_ixor (q := 81) hx (dc kX5_tell_0 45 rfl) rfl ?_
      refine j_iand (q := 82) hx (dc kX5_tell_0 46 rfl) rfl ?_
      exact j_sub [] rfl (hb82 v7 x1 (v9 &&& (x4 ^^^ (-1 : Int32))) h6)
    · refine j_aload_n (q := 56) hx (dc kX5_tell_0 32 rfl) rfl 0 rfl rfl ?_
      refine w_gR (q := 59) hx (dc kX5_tell_0 33 rfl) ff_X5_14 lk_X5_27 rfl (fun v13 => ?_)
      refine j_iload_n (q := 60) hx (dc kX5_tell_0 34 rfl) rfl 1 rfl rfl ?_
      refine w_cSIR (q := 63) (As := [vR x.2.2.2 v13, .int x1]) (st := [.int x1, vR x.2.2.2 v7]) hx (dc kX5_tell_0 35 rfl) (cI _ my_X11_at lm_X5_73 (by decide)) st_X11_at rfl (fun u hu => sX11_at _ _ _ _ _ _ hu) (sum_le (sum_I (sum_R sum_nil)) (by decide)) rfl (fun v14 => ?_)
      refine j_iload (q := 65) hx (dc kX5_tell_0 36 rfl) 3 rfl rfl ?_
      refine j_ior (q := 66) hx (dc kX5_tell_0 37 rfl) rfl ?_
      refine j_goto (q := 82) hx (dc kX5_tell_0 38 rfl) (by decide) ?_
      exact j_sub [] rfl (hb82 v7 x1 (v14 ||| x4) h6)
  unfold mX5_tell
  refine J.ckd fun hck => ?_
  refine j_iconst (q := 1) (v := (1 : Int32)) hx (dc kX5_tell_0 0 rfl) (by decide) rfl ?_
  refine j_iload_n (q := 2) hx (dc kX5_tell_0 1 rfl) rfl 2 rfl rfl ?_
  refine j_ishl (q := 3) hx (dc kX5_tell_0 2 rfl) rfl ?_
  refine j_istore (q := 5) (i := 4) (l2 := [(0, vR x.2.2.2 x0), (1, .int x1), (3, .int x3)]) hx (dc kX5_tell_0 3 rfl) (hn 4 (by decide)) [0, 1, 3] rfl ⟨⟨show (0 : Nat) ≠ 4 by decide, Or.inl (show (0 : Nat) + 1 ≠ 4 by decide)⟩, ⟨⟨show (1 : Nat) ≠ 4 by decide, Or.inl (show (1 : Nat) + 1 ≠ 4 by decide)⟩, ⟨⟨show (3 : Nat) ≠ 4 by decide, Or.inr rfl⟩, trivial⟩⟩⟩ rfl ?_
  refine j_aload_n (q := 6) hx (dc kX5_tell_0 4 rfl) rfl 1 rfl rfl ?_
  refine w_gR (q := 9) hx (dc kX5_tell_0 5 rfl) ff_X5_13 lk_X5_24 rfl (fun v1 => ?_)
  refine j_iload_n (q := 10) hx (dc kX5_tell_0 6 rfl) rfl 2 rfl rfl ?_
  refine j_iload_n (q := 11) hx (dc kX5_tell_0 7 rfl) rfl 3 rfl rfl ?_
  refine j_iconst (q := 12) (v := (2 : Int32)) hx (dc kX5_tell_0 8 rfl) (by decide) rfl ?_
  refine j_icmp_geS (q := 15) (tgt := 29) hx (dc kX5_tell_0 9 rfl) (by decide) rfl ?_ ?_
  · refine j_aload_n (q := 30) hx (dc kX5_tell_0 17 rfl) rfl 1 rfl rfl ?_
    refine w_gR (q := 33) hx (dc kX5_tell_0 18 rfl) ff_X5_13 lk_X5_24 rfl (fun v2 => ?_)
    refine j_iload_n (q := 34) hx (dc kX5_tell_0 19 rfl) rfl 2 rfl rfl ?_
    refine w_cSIR (q := 37) (As := [vR x.2.2.2 v2, .int x1]) (st := [.int x1, vR x.2.2.2 v1]) hx (dc kX5_tell_0 20 rfl) (cI _ my_X11_at lm_X5_73 (by decide)) st_X11_at rfl (fun u hu => sX11_at _ _ _ _ _ _ hu) (sum_le (sum_I (sum_R sum_nil)) (by decide)) rfl (fun v3 => ?_)
    refine j_iload (q := 39) hx (dc kX5_tell_0 21 rfl) 0 rfl rfl ?_
    refine j_iconst (q := 40) (v := (-1 : Int32)) hx (dc kX5_tell_0 22 rfl) (by decide) rfl ?_
    refine j_ixor (q := 41) hx (dc kX5_tell_0 23 rfl) rfl ?_
    refine j_iand (q := 42) hx (dc kX5_tell_0 24 rfl) rfl ?_
    exact j_sub [1, 2, 3, 0] rfl (hb42 x0 x1 x3 ((1 : Int32) <<< (x2 &&& 31)) v1 x1 (v3 &&& (((1 : Int32) <<< (x2 &&& 31)) ^^^ (-1 : Int32))) h)
  · refine j_aload_n (q := 16) hx (dc kX5_tell_0 10 rfl) rfl 1 rfl rfl ?_
    refine w_gR (q := 19) hx (dc kX5_tell_0 11 rfl) ff_X5_13 lk_X5_24 rfl (fun v16 => ?_)
    refine j_iload_n (q := 20) hx (dc kX5_tell_0 12 rfl) rfl 2 rfl rfl ?_
    refine w_cSIR (q := 23) (As := [vR x.2.2.2 v16, .int x1]) (st := [.int x1, vR x.2.2.2 v1]) hx (dc kX5_tell_0 13 rfl) (cI _ my_X11_at lm_X5_73 (by decide)) st_X11_at rfl (fun u hu => sX11_at _ _ _ _ _ _ hu) (sum_le (sum_I (sum_R sum_nil)) (by decide)) rfl (fun v17 => ?_)
    refine j_iload (q := 25) hx (dc kX5_tell_0 14 rfl) 0 rfl rfl ?_
    refine j_ior (q := 26) hx (dc kX5_tell_0 15 rfl) rfl ?_
    refine j_goto (q := 42) hx (dc kX5_tell_0 16 rfl) (by decide) ?_
    exact j_sub [1, 2, 3, 0] rfl (hb42 x0 x1 x3 ((1 : Int32) <<< (x2 &&& 31)) v1 x1 (v17 ||| ((1 : Int32) <<< (x2 &&& 31))) h)

set_option maxHeartbeats 4000000 in
set_option maxRecDepth 100000 in
theorem sX2_readSays (l : Launch) (w : Wd) (x0 : Nat) (h : Hp) (u : (Int32 × Hp)) (hK : mX2_readSays x0 h = some u) : M1 l w mi_X2_readSays 3 [vR w x0] h u.2 (some (.int u.1)) := by
  refine M1.of (own := RX2) (T := fun _ r => r = u) hK (by decide +kernel) rfl (by first | (simp only [lg_lenR, lg_lenI, lg_lenL, lg_len0]; decide) | decide) (fun x hx hnl hhf hl hw hret hnm hQ h0e => ⟨?_, rfl⟩)
  subst hw
  subst hl
  have hR : Rt x h u.2 (some (.int u.1)) ((some .boolean)) := ⟨h0e, hhf, hret, hQ⟩
  have hn : ∀ i, i < 3 → i < x.2.2.1.1.1 := fun i hi => by rw [hnl]; exact hi
  have e0 : lv_args 0 [vR x.2.2.2 x0] = [(0, vR x.2.2.2 x0)] := by simp only [lv_argsR, lv_argsI, lv_argsL, lv_args0]
  rw [e0]
  have hb117 : ∀ (x0 : Nat) (t0 : Nat) (t1 : Int32) (t2 : Int32) (t3 : Int32) (h : Hp), J x 117 [(0, vR x.2.2.2 x0)] [.int t3, .int t2, .int t1, vR x.2.2.2 t0] h (mX2_readSays_b117 x0 t0 t1 t2 t3 h) (fun r => r = u) := by
    intro x0 t0 t1 t2 t3 h
    unfold mX2_readSays_b117
    refine w_cVVW (q := 120) (As := [.int t1, .int t2, .int t3]) (st := []) hx (dc kX2_readSays_1 0 rfl) cf5 (by decide) rfl (cI _ my_X5_tell lm_X2_186 (by decide)) vs_X5_tell rfl (fun u hu => sX5_tell _ _ _ _ _ _ _ _ hu) (fun e => ite_ne (by unfold mX5_tell at e; exact e)) (Nat.zero_le _) rfl (fun h20 => ?_)
    refine j_aload_n (q := 121) hx (dc kX2_readSays_1 1 rfl) rfl 0 rfl rfl ?_
    refine j_bipush (q := 123) (v := (59 : Int32)) hx (dc kX2_readSays_1 2 rfl) (by decide) rfl ?_
    refine w_cVIW (q := 126) (As := [.int (59 : Int32)]) (st := []) hx (dc kX2_readSays_1 3 rfl) cf2 (by decide) rfl (cI _ my_X2_expect lm_X2_62 (by decide)) vs_X2_expect rfl (fun u hu => sX2_expect _ _ _ _ _ _ hu) (fun e => ite_ne (by unfold mX2_expect at e; exact e)) (Nat.zero_le _) rfl (fun v21 h22 => ?_)
    exact r_zW hx hR (dc kX2_readSays_1 4 rfl)
  have hb53 : ∀ (x0 : Nat) (x1 : Int32) (x2 : Int32) (h : Hp), J x 53 [(0, vR x.2.2.2 x0), (1, .int x1), (2, .int x2)] [] h (mX2_readSays_b53 x0 x1 x2 h) (fun r => r = u) := by
    intro x0 x1 x2 h
    unfold mX2_readSays_b53
    refine j_aload_n (q := 54) hx (dc kX2_readSays_0 30 rfl) rfl 0 rfl rfl ?_
    refine w_cVIW (q := 57) (As := []) (st := []) hx (dc kX2_readSays_0 31 rfl) cf2 (by decide) rfl (cI _ my_X2_knownFact lm_X2_173 (by decide)) vs_X2_knownFact rfl (fun u hu => sX2_knownFact _ _ _ _ _ hu) (fun e => ite_ne (by unfold mX2_knownFact at e; exact e)) (Nat.zero_le _) rfl (fun v8 h9 => ?_)
    refine j_if_neS (q := 60) (tgt := 62) hx (dc kX2_readSays_0 32 rfl) (by decide) rfl ?_ ?_
    · refine j_aload_n (q := 63) hx (dc kX2_readSays_0 35 rfl) rfl 0 rfl rfl ?_
      refine w_gR (q := 66) hx (dc kX2_readSays_0 36 rfl) ff_X2_4 lk_X2_30 rfl (fun v10 => ?_)
      refine w_gR (q := 69) hx (dc kX2_readSays_0 37 rfl) ff_X5_13 lk_X2_176 rfl (fun v11 => ?_)
      refine j_iload_n (q := 70) hx (dc kX2_readSays_0 38 rfl) rfl 1 rfl rfl ?_
      refine w_cSIR (q := 73) (As := [vR x.2.2.2 v11, .int x1]) (st := []) hx (dc kX2_readSays_0 39 rfl) (cI _ my_X11_at lm_X2_179 (by decide)) st_X11_at rfl (fun u hu => sX11_at _ _ _ _ _ _ hu) (Nat.zero_le _) rfl (fun v12 => ?_)
      refine j_aload_n (q := 74) hx (dc kX2_readSays_0 40 rfl) rfl 0 rfl rfl ?_
      refine w_gI (q := 77) hx (dc kX2_readSays_0 41 rfl) ff_X2_6 lk_X2_101 rfl (fun v14 => ?_)
      refine w_cSIR (q := 80) (As := [.int v12, .int v14]) (st := []) hx (dc kX2_readSays_0 42 rfl) (cI _ my_X11_has lm_X2_183 (by decide)) st_X11_has rfl (fun u hu => sX11_has _ _ _ _ _ _ hu) (Nat.zero_le _) rfl (fun v15 => ?_)
      refine j_if_eq (q := 83) (tgt := 99) hx (dc kX2_readSays_0 43 rfl) (by decide) Iff.rfl rfl ?_ ?_
      · refine j_aload_n (q := 100) hx (dc kX2_readSays_0 54 rfl) rfl 0 rfl rfl ?_
        refine w_gR (q := 103) hx (dc kX2_readSays_0 55 rfl) ff_X2_4 lk_X2_30 rfl (fun v17 => ?_)
        refine j_iload_n (q := 104) hx (dc kX2_readSays_0 56 rfl) rfl 1 rfl rfl ?_
        refine j_aload_n (q := 105) hx (dc kX2_readSays_0 57 rfl) rfl 0 rfl rfl ?_
        refine w_gI (q := 108) hx (dc kX2_readSays_0 58 rfl) ff_X2_6 lk_X2_101 rfl (fun v18 => ?_)
        refine j_iload_n (q := 109) hx (dc kX2_readSays_0 59 rfl) rfl 2 rfl rfl ?_
        refine j_if_eq (q := 112) (tgt := 116) hx (dc kX2_readSays_0 60 rfl) (by decide) Iff.rfl rfl ?_ ?_
        · refine j_iconst (q := 117) (v := (0 : Int32)) hx (dc kX2_readSays_0 63 rfl) (by decide) rfl ?_
          exact j_sub [0] rfl (hb117 x0 v17 x1 v18 (0 : Int32) h9)
        · refine j_iconst (q := 113) (v := (1 : Int32)) hx (dc kX2_readSays_0 61 rfl) (by decide) rfl ?_
          refine j_goto (q := 117) hx (dc kX2_readSays_0 62 rfl) (by decide) ?_
          exact j_sub [0] rfl (hb117 x0 v17 x1 v18 (1 : Int32) h9)
      · refine j_aload_n (q := 84) hx (dc kX2_readSays_0 44 rfl) rfl 0 rfl rfl ?_
        refine j_dup (q := 85) hx (dc kX2_readSays_0 45 rfl) (vR_cat _ _) rfl ?_
        refine w_gI (q := 88) hx (dc kX2_readSays_0 46 rfl) ff_X2_5 lk_X2_65 rfl (fun v23 => ?_)
        refine j_iconst (q := 89) (v := (1 : Int32)) hx (dc kX2_readSays_0 47 rfl) (by decide) rfl ?_
        refine j_isub (q := 90) hx (dc kX2_readSays_0 48 rfl) rfl ?_
        refine w_sI (q := 93) hx (dc kX2_readSays_0 49 rfl) ff_X2_5 rfl lk_X2_65 (Or.inl rfl) rfl (fun h24 => ?_)
        refine j_aload_n (q := 94) hx (dc kX2_readSays_0 50 rfl) rfl 0 rfl rfl ?_
        refine j_iconst (q := 95) (v := (3 : Int32)) hx (dc kX2_readSays_0 51 rfl) (by decide) rfl ?_
        refine w_cVIW (q := 98) (As := [.int (3 : Int32)]) (st := []) hx (dc kX2_readSays_0 52 rfl) cf2 (by decide) rfl (cI _ my_X2_fail lm_X2_92 (by decide)) vs_X2_fail rfl (fun u hu => sX2_fail _ _ _ _ _ _ hu) (fun e => ite_ne (by unfold mX2_fail at e; exact e)) (Nat.zero_le _) rfl (fun v25 h26 => ?_)
        exact r_zW hx hR (dc kX2_readSays_0 53 rfl)
    · refine j_iconst (q := 61) (v := (0 : Int32)) hx (dc kX2_readSays_0 33 rfl) (by decide) rfl ?_
      exact r_cW hx (Or.inl rfl) hR (dc kX2_readSays_0 34 rfl)
  have hb38 : ∀ (x0 : Nat) (x1 : Int32) (t0 : Int32) (h : Hp), J x 38 [(0, vR x.2.2.2 x0), (1, .int x1)] [.int t0] h (mX2_readSays_b38 x0 x1 t0 h) (fun r => r = u) := by
    intro x0 x1 t0 h
    unfold mX2_readSays_b38
    refine j_istore_n (q := 39) (i := 2) (l2 := [(0, vR x.2.2.2 x0), (1, .int x1)]) hx (dc kX2_readSays_0 21 rfl) rfl (hn 2 (by decide)) [0, 1] rfl ⟨⟨show (0 : Nat) ≠ 2 by decide, Or.inl (show (0 : Nat) + 1 ≠ 2 by decide)⟩, ⟨⟨show (1 : Nat) ≠ 2 by decide, Or.inr rfl⟩, trivial⟩⟩ rfl ?_
    refine j_iload_n (q := 40) hx (dc kX2_readSays_0 22 rfl) rfl 0 rfl rfl ?_
    refine j_if_neS (q := 43) (tgt := 53) hx (dc kX2_readSays_0 23 rfl) (by decide) rfl ?_ ?_
    · exact j_sub [1, 2, 0] rfl (hb53 x0 x1 t0 h)
    · refine j_aload_n (q := 44) hx (dc kX2_readSays_0 24 rfl) rfl 1 rfl rfl ?_
      refine j_dup (q := 45) hx (dc kX2_readSays_0 25 rfl) (vR_cat _ _) rfl ?_
      refine w_gI (q := 48) hx (dc kX2_readSays_0 26 rfl) ff_X2_5 lk_X2_65 rfl (fun v27 => ?_)
      refine j_iconst (q := 49) (v := (1 : Int32)) hx (dc kX2_readSays_0 27 rfl) (by decide) rfl ?_
      refine j_iadd (q := 50) hx (dc kX2_readSays_0 28 rfl) rfl ?_
      refine w_sI (q := 53) hx (dc kX2_readSays_0 29 rfl) ff_X2_5 rfl lk_X2_65 (Or.inl rfl) rfl (fun h28 => ?_)
      exact j_sub [1, 2, 0] rfl (hb53 x0 x1 t0 h28)
  unfold mX2_readSays
  refine J.ckd fun hck => ?_
  refine j_aload_n (q := 1) hx (dc kX2_readSays_0 0 rfl) rfl 0 rfl rfl ?_
  refine j_dup (q := 2) hx (dc kX2_readSays_0 1 rfl) (vR_cat _ _) rfl ?_
  refine w_gI (q := 5) hx (dc kX2_readSays_0 2 rfl) ff_X2_5 lk_X2_65 rfl (fun v1 => ?_)
  refine j_iconst (q := 6) (v := (1 : Int32)) hx (dc kX2_readSays_0 3 rfl) (by decide) rfl ?_
  refine j_iadd (q := 7) hx (dc kX2_readSays_0 4 rfl) rfl ?_
  refine w_sI (q := 10) hx (dc kX2_readSays_0 5 rfl) ff_X2_5 rfl lk_X2_65 (Or.inl rfl) rfl (fun h2 => ?_)
  refine j_aload_n (q := 11) hx (dc kX2_readSays_0 6 rfl) rfl 0 rfl rfl ?_
  refine w_cVIW (q := 14) (As := []) (st := []) hx (dc kX2_readSays_0 7 rfl) cf2 (by decide) rfl (cI _ my_X2_knownCount lm_X2_167 (by decide)) vs_X2_knownCount rfl (fun u hu => sX2_knownCount _ _ _ _ _ hu) (fun e => ite_ne (by unfold mX2_knownCount at e; exact e)) (Nat.zero_le _) rfl (fun v3 h4 => ?_)
  refine j_if_neS (q := 17) (tgt := 19) hx (dc kX2_readSays_0 8 rfl) (by decide) rfl ?_ ?_
  · refine j_aload_n (q := 20) hx (dc kX2_readSays_0 11 rfl) rfl 0 rfl rfl ?_
    refine w_gI (q := 23) hx (dc kX2_readSays_0 12 rfl) ff_X2_6 lk_X2_101 rfl (fun v5 => ?_)
    refine j_istore_n (q := 24) (i := 1) (l2 := [(0, vR x.2.2.2 x0)]) hx (dc kX2_readSays_0 13 rfl) rfl (hn 1 (by decide)) [0] rfl ⟨⟨show (0 : Nat) ≠ 1 by decide, Or.inr (vR_cat _ _)⟩, trivial⟩ rfl ?_
    refine j_aload_n (q := 25) hx (dc kX2_readSays_0 14 rfl) rfl 1 rfl rfl ?_
    refine w_cVIR (q := 28) (As := []) (st := []) hx (dc kX2_readSays_0 15 rfl) cf2 (by decide) rfl (cI _ my_X2_nextKind lm_X2_46 (by decide)) vs_X2_nextKind rfl (fun u hu => sX2_nextKind _ _ _ _ _ hu) (fun e => ite_ne (by unfold mX2_nextKind at e; exact e)) (Nat.zero_le _) rfl (fun v6 => ?_)
    refine j_bipush (q := 30) (v := (33 : Int32)) hx (dc kX2_readSays_0 16 rfl) (by decide) rfl ?_
    refine j_icmp_eq (q := 33) (tgt := 37) hx (dc kX2_readSays_0 17 rfl) (by decide) Iff.rfl rfl ?_ ?_
    · refine j_iconst (q := 38) (v := (0 : Int32)) hx (dc kX2_readSays_0 20 rfl) (by decide) rfl ?_
      exact j_sub [1, 0] rfl (hb38 x0 v5 (0 : Int32) h4)
    · refine j_iconst (q := 34) (v := (1 : Int32)) hx (dc kX2_readSays_0 18 rfl) (by decide) rfl ?_
      refine j_goto (q := 38) hx (dc kX2_readSays_0 19 rfl) (by decide) ?_
      exact j_sub [1, 0] rfl (hb38 x0 v5 (1 : Int32) h4)
  · refine j_iconst (q := 18) (v := (0 : Int32)) hx (dc kX2_readSays_0 9 rfl) (by decide) rfl ?_
    exact r_cW hx (Or.inl rfl) hR (dc kX2_readSays_0 10 rfl)

set_option maxHeartbeats 4000000 in
set_option maxRecDepth 100000 in
theorem sX2_readSame (l : Launch) (w : Wd) (x0 : Nat) (h : Hp) (u : (Int32 × Hp)) (hK : mX2_readSame x0 h = some u) : M1 l w mi_X2_readSame 3 [vR w x0] h u.2 (some (.int u.1)) := by
  refine M1.of (own := RX2) (T := fun _ r => r = u) hK (by decide +kernel) rfl (by first | (simp only [lg_lenR, lg_lenI, lg_lenL, lg_len0]; decide) | decide) (fun x hx hnl hhf hl hw hret hnm hQ h0e => ⟨?_, rfl⟩)
  subst hw
  subst hl
  have hR : Rt x h u.2 (some (.int u.1)) ((some .boolean)) := ⟨h0e, hhf, hret, hQ⟩
  have hn : ∀ i, i < 3 → i < x.2.2.1.1.1 := fun i hi => by rw [hnl]; exact hi
  have e0 : lv_args 0 [vR x.2.2.2 x0] = [(0, vR x.2.2.2 x0)] := by simp only [lv_argsR, lv_argsI, lv_argsL, lv_args0]
  rw [e0]
  have hb61 : ∀ (x0 : Nat) (h : Hp), J x 61 [(0, vR x.2.2.2 x0)] [] h (mX2_readSame_b61 x0 h) (fun r => r = u) := by
    intro x0 h
    unfold mX2_readSame_b61
    refine j_aload_n (q := 62) hx (dc kX2_readSame_0 33 rfl) rfl 0 rfl rfl ?_
    refine j_dup (q := 63) hx (dc kX2_readSame_0 34 rfl) (vR_cat _ _) rfl ?_
    refine w_gI (q := 66) hx (dc kX2_readSame_0 35 rfl) ff_X2_5 lk_X2_65 rfl (fun v9 => ?_)
    refine j_iconst (q := 67) (v := (1 : Int32)) hx (dc kX2_readSame_0 36 rfl) (by decide) rfl ?_
    refine j_isub (q := 68) hx (dc kX2_readSame_0 37 rfl) rfl ?_
    refine w_sI (q := 71) hx (dc kX2_readSame_0 38 rfl) ff_X2_5 rfl lk_X2_65 (Or.inl rfl) rfl (fun h10 => ?_)
    refine j_aload_n (q := 72) hx (dc kX2_readSame_0 39 rfl) rfl 0 rfl rfl ?_
    refine j_iconst (q := 73) (v := (3 : Int32)) hx (dc kX2_readSame_0 40 rfl) (by decide) rfl ?_
    refine w_cVIW (q := 76) (As := [.int (3 : Int32)]) (st := []) hx (dc kX2_readSame_0 41 rfl) cf2 (by decide) rfl (cI _ my_X2_fail lm_X2_92 (by decide)) vs_X2_fail rfl (fun u hu => sX2_fail _ _ _ _ _ _ hu) (fun e => ite_ne (by unfold mX2_fail at e; exact e)) (Nat.zero_le _) rfl (fun v11 h12 => ?_)
    exact r_zW hx hR (dc kX2_readSame_0 42 rfl)
  unfold mX2_readSame
  refine J.ckd fun hck => ?_
  refine j_aload_n (q := 1) hx (dc kX2_readSame_0 0 rfl) rfl 0 rfl rfl ?_
  refine j_dup (q := 2) hx (dc kX2_readSame_0 1 rfl) (vR_cat _ _) rfl ?_
  refine w_gI (q := 5) hx (dc kX2_readSame_0 2 rfl) ff_X2_5 lk_X2_65 rfl (fun v1 => ?_)
  refine j_iconst (q := 6) (v := (1 : Int32)) hx (dc kX2_readSame_0 3 rfl) (by decide) rfl ?_
  refine j_iadd (q := 7) hx (dc kX2_readSame_0 4 rfl) rfl ?_
  refine w_sI (q := 10) hx (dc kX2_readSame_0 5 rfl) ff_X2_5 rfl lk_X2_65 (Or.inl rfl) rfl (fun h2 => ?_)
  refine j_aload_n (q := 11) hx (dc kX2_readSame_0 6 rfl) rfl 0 rfl rfl ?_
  refine w_cVIW (q := 14) (As := []) (st := []) hx (dc kX2_readSame_0 7 rfl) cf2 (by decide) rfl (cI _ my_X2_knownCount lm_X2_167 (by decide)) vs_X2_knownCount rfl (fun u hu => sX2_knownCount _ _ _ _ _ hu) (fun e => ite_ne (by unfold mX2_knownCount at e; exact e)) (Nat.zero_le _) rfl (fun v3 h4 => ?_)
  refine j_if_neS (q := 17) (tgt := 19) hx (dc kX2_readSame_0 8 rfl) (by decide) rfl ?_ ?_
  · refine j_aload_n (q := 20) hx (dc kX2_readSame_0 11 rfl) rfl 0 rfl rfl ?_
    refine w_gI (q := 23) hx (dc kX2_readSame_0 12 rfl) ff_X2_6 lk_X2_101 rfl (fun v5 => ?_)
    refine j_istore_n (q := 24) (i := 1) (l2 := [(0, vR x.2.2.2 x0)]) hx (dc kX2_readSame_0 13 rfl) rfl (hn 1 (by decide)) [0] rfl ⟨⟨show (0 : Nat) ≠ 1 by decide, Or.inr (vR_cat _ _)⟩, trivial⟩ rfl ?_
    refine j_aload_n (q := 25) hx (dc kX2_readSame_0 14 rfl) rfl 1 rfl rfl ?_
    refine w_cVIW (q := 28) (As := []) (st := []) hx (dc kX2_readSame_0 15 rfl) cf2 (by decide) rfl (cI _ my_X2_knownCount lm_X2_167 (by decide)) vs_X2_knownCount rfl (fun u hu => sX2_knownCount _ _ _ _ _ hu) (fun e => ite_ne (by unfold mX2_knownCount at e; exact e)) (Nat.zero_le _) rfl (fun v6 h7 => ?_)
    refine j_if_neS (q := 31) (tgt := 33) hx (dc kX2_readSame_0 16 rfl) (by decide) rfl ?_ ?_
    · refine j_aload_n (q := 34) hx (dc kX2_readSame_0 19 rfl) rfl 1 rfl rfl ?_
      refine w_gI (q := 37) hx (dc kX2_readSame_0 20 rfl) ff_X2_6 lk_X2_101 rfl (fun v8 => ?_)
      refine j_istore_n (q := 38) (i := 2) (l2 := [(1, .int v5), (0, vR x.2.2.2 x0)]) hx (dc kX2_readSame_0 21 rfl) rfl (hn 2 (by decide)) [0, 1] rfl ⟨⟨show (1 : Nat) ≠ 2 by decide, Or.inr rfl⟩, ⟨⟨show (0 : Nat) ≠ 2 by decide, Or.inl (show (0 : Nat) + 1 ≠ 2 by decide)⟩, trivial⟩⟩ rfl ?_
      refine j_iload_n (q := 39) hx (dc kX2_readSame_0 22 rfl) rfl 1 rfl rfl ?_
      refine j_iload_n (q := 40) hx (dc kX2_readSame_0 23 rfl) rfl 0 rfl rfl ?_
      refine j_icmp_eq (q := 43) (tgt := 61) hx (dc kX2_readSame_0 24 rfl) (by decide) Iff.rfl rfl ?_ ?_
      · exact j_sub [2] rfl (hb61 x0 h7)
      · refine j_aload_n (q := 44) hx (dc kX2_readSame_0 25 rfl) rfl 2 rfl rfl ?_
        refine w_gR (q := 47) hx (dc kX2_readSame_0 26 rfl) ff_X2_3 lk_X2_26 rfl (fun v13 => ?_)
        refine w_gR (q := 50) hx (dc kX2_readSame_0 27 rfl) ff_X1_10 lk_X2_190 rfl (fun v14 => ?_)
        refine j_iload_n (q := 51) hx (dc kX2_readSame_0 28 rfl) rfl 1 rfl rfl ?_
        refine w_cSIR (q := 54) (As := [vR x.2.2.2 v14, .int v5]) (st := []) hx (dc kX2_readSame_0 29 rfl) (cI _ my_X11_at lm_X2_179 (by decide)) st_X11_at rfl (fun u hu => sX11_at _ _ _ _ _ _ hu) (Nat.zero_le _) rfl (fun v15 => ?_)
        refine j_iload_n (q := 55) hx (dc kX2_readSame_0 30 rfl) rfl 0 rfl rfl ?_
        refine w_cSIR (q := 58) (As := [.int v15, .int v8]) (st := []) hx (dc kX2_readSame_0 31 rfl) (cI _ my_X11_has lm_X2_183 (by decide)) st_X11_has rfl (fun u hu => sX11_has _ _ _ _ _ _ hu) (Nat.zero_le _) rfl (fun v17 => ?_)
        refine j_if_eq (q := 61) (tgt := 77) hx (dc kX2_readSame_0 32 rfl) (by decide) Iff.rfl rfl ?_ ?_
        · refine j_aload_n (q := 78) hx (dc kX2_readSame_0 43 rfl) rfl 2 rfl rfl ?_
          refine w_gR (q := 81) hx (dc kX2_readSame_0 44 rfl) ff_X2_3 lk_X2_26 rfl (fun v19 => ?_)
          refine w_gR (q := 84) hx (dc kX2_readSame_0 45 rfl) ff_X1_10 lk_X2_190 rfl (fun v20 => ?_)
          refine j_iload_n (q := 85) hx (dc kX2_readSame_0 46 rfl) rfl 1 rfl rfl ?_
          refine j_aload_n (q := 86) hx (dc kX2_readSame_0 47 rfl) rfl 2 rfl rfl ?_
          refine w_gR (q := 89) hx (dc kX2_readSame_0 48 rfl) ff_X2_3 lk_X2_26 rfl (fun v21 => ?_)
          refine w_gR (q := 92) hx (dc kX2_readSame_0 49 rfl) ff_X1_10 lk_X2_190 rfl (fun v22 => ?_)
          refine j_iload_n (q := 93) hx (dc kX2_readSame_0 50 rfl) rfl 1 rfl rfl ?_
          refine w_cSIR (q := 96) (As := [vR x.2.2.2 v22, .int v5]) (st := [.int v5, vR x.2.2.2 v20]) hx (dc kX2_readSame_0 51 rfl) (cI _ my_X11_at lm_X2_179 (by decide)) st_X11_at rfl (fun u hu => sX11_at _ _ _ _ _ _ hu) (sum_le (sum_I (sum_R sum_nil)) (by decide)) rfl (fun v23 => ?_)
          refine j_iconst (q := 97) (v := (1 : Int32)) hx (dc kX2_readSame_0 52 rfl) (by decide) rfl ?_
          refine j_iload_n (q := 98) hx (dc kX2_readSame_0 53 rfl) rfl 0 rfl rfl ?_
          refine j_ishl (q := 99) hx (dc kX2_readSame_0 54 rfl) rfl ?_
          refine j_ior (q := 100) hx (dc kX2_readSame_0 55 rfl) rfl ?_
          refine w_cSVW (q := 103) (As := [vR x.2.2.2 v20, .int v5, .int (v23 ||| ((1 : Int32) <<< (v8 &&& 31)))]) (st := []) hx (dc kX2_readSame_0 56 rfl) (cI _ my_X11_put lm_X2_112 (by decide)) st_X11_put rfl (fun u hu => sX11_put _ _ _ _ _ _ _ hu) (Nat.zero_le _) rfl (fun h26 => ?_)
          refine j_aload_n (q := 104) hx (dc kX2_readSame_0 57 rfl) rfl 2 rfl rfl ?_
          refine w_gR (q := 107) hx (dc kX2_readSame_0 58 rfl) ff_X2_3 lk_X2_26 rfl (fun v27 => ?_)
          refine w_gR (q := 110) hx (dc kX2_readSame_0 59 rfl) ff_X1_10 lk_X2_190 rfl (fun v28 => ?_)
          refine j_iload_n (q := 111) hx (dc kX2_readSame_0 60 rfl) rfl 0 rfl rfl ?_
          refine j_aload_n (q := 112) hx (dc kX2_readSame_0 61 rfl) rfl 2 rfl rfl ?_
          refine w_gR (q := 115) hx (dc kX2_readSame_0 62 rfl) ff_X2_3 lk_X2_26 rfl (fun v29 => ?_)
          refine w_gR (q := 118) hx (dc kX2_readSame_0 63 rfl) ff_X1_10 lk_X2_190 rfl (fun v30 => ?_)
          refine j_iload_n (q := 119) hx (dc kX2_readSame_1 0 rfl) rfl 0 rfl rfl ?_
          refine w_cSIR (q := 122) (As := [vR x.2.2.2 v30, .int v8]) (st := [.int v8, vR x.2.2.2 v28]) hx (dc kX2_readSame_1 1 rfl) (cI _ my_X11_at lm_X2_179 (by decide)) st_X11_at rfl (fun u hu => sX11_at _ _ _ _ _ _ hu) (sum_le (sum_I (sum_R sum_nil)) (by decide)) rfl (fun v31 => ?_)
          refine j_iconst (q := 123) (v := (1 : Int32)) hx (dc kX2_readSame_1 2 rfl) (by decide) rfl ?_
          refine j_iload_n (q := 124) hx (dc kX2_readSame_1 3 rfl) rfl 1 rfl rfl ?_
          refine j_ishl (q := 125) hx (dc kX2_readSame_1 4 rfl) rfl ?_
          refine j_ior (q := 126) hx (dc kX2_readSame_1 5 rfl) rfl ?_
          refine w_cSVW (q := 129) (As := [vR x.2.2.2 v28, .int v8, .int (v31 ||| ((1 : Int32) <<< (v5 &&& 31)))]) (st := []) hx (dc kX2_readSame_1 6 rfl) (cI _ my_X11_put lm_X2_112 (by decide)) st_X11_put rfl (fun u hu => sX11_put _ _ _ _ _ _ _ hu) (Nat.zero_le _) rfl (fun h34 => ?_)
          refine j_aload_n (q := 130) hx (dc kX2_readSame_1 7 rfl) rfl 2 rfl rfl ?_
          refine w_gR (q := 133) hx (dc kX2_readSame_1 8 rfl) ff_X2_3 lk_X2_26 rfl (fun v35 => ?_)
          refine j_aload_n (q := 134) hx (dc kX2_readSame_1 9 rfl) rfl 2 rfl rfl ?_
          refine w_gR (q := 137) hx (dc kX2_readSame_1 10 rfl) ff_X2_3 lk_X2_26 rfl (fun v36 => ?_)
          refine w_gR (q := 140) hx (dc kX2_readSame_1 11 rfl) ff_X1_11 lk_X2_157 rfl (fun v37 => ?_)
          refine j_iload_n (q := 141) hx (dc kX2_readSame_1 12 rfl) rfl 1 rfl rfl ?_
          refine w_cSIR (q := 144) (As := [vR x.2.2.2 v37, .int v5]) (st := [vR x.2.2.2 v35]) hx (dc kX2_readSame_1 13 rfl) (cI _ my_X11_at lm_X2_179 (by decide)) st_X11_at rfl (fun u hu => sX11_at _ _ _ _ _ _ hu) (sum_le (sum_R sum_nil) (by decide)) rfl (fun v38 => ?_)
          refine j_aload_n (q := 145) hx (dc kX2_readSame_1 14 rfl) rfl 2 rfl rfl ?_
          refine w_gR (q := 148) hx (dc kX2_readSame_1 15 rfl) ff_X2_3 lk_X2_26 rfl (fun v40 => ?_)
          refine w_gR (q := 151) hx (dc kX2_readSame_1 16 rfl) ff_X1_11 lk_X2_157 rfl (fun v41 => ?_)
          refine j_iload_n (q := 152) hx (dc kX2_readSame_1 17 rfl) rfl 0 rfl rfl ?_
          refine w_cSIR (q := 155) (As := [vR x.2.2.2 v41, .int v8]) (st := [.int v38, vR x.2.2.2 v35]) hx (dc kX2_readSame_1 18 rfl) (cI _ my_X11_at lm_X2_179 (by decide)) st_X11_at rfl (fun u hu => sX11_at _ _ _ _ _ _ hu) (sum_le (sum_I (sum_R sum_nil)) (by decide)) rfl (fun v42 => ?_)
          refine w_cVVW (q := 158) (As := [.int v38, .int v42]) (st := []) hx (dc kX2_readSame_1 19 rfl) cf1 (by decide) rfl (cI _ my_X1_unite lm_X2_193 (by decide)) vs_X1_unite rfl (fun u hu => sX1_unite _ _ _ _ _ _ _ hu) (fun e => ite_ne (by unfold mX1_unite at e; exact e)) (Nat.zero_le _) rfl (fun h45 => ?_)
          refine j_aload_n (q := 159) hx (dc kX2_readSame_1 20 rfl) rfl 2 rfl rfl ?_
          refine j_bipush (q := 161) (v := (59 : Int32)) hx (dc kX2_readSame_1 21 rfl) (by decide) rfl ?_
          refine w_cVIW (q := 164) (As := [.int (59 : Int32)]) (st := []) hx (dc kX2_readSame_1 22 rfl) cf2 (by decide) rfl (cI _ my_X2_expect lm_X2_62 (by decide)) vs_X2_expect rfl (fun u hu => sX2_expect _ _ _ _ _ _ hu) (fun e => ite_ne (by unfold mX2_expect at e; exact e)) (Nat.zero_le _) rfl (fun v46 h47 => ?_)
          exact r_zW hx hR (dc kX2_readSame_1 23 rfl)
        · exact j_sub [2] rfl (hb61 x0 h7)
    · refine j_iconst (q := 32) (v := (0 : Int32)) hx (dc kX2_readSame_0 17 rfl) (by decide) rfl ?_
      exact r_cW hx (Or.inl rfl) hR (dc kX2_readSame_0 18 rfl)
  · refine j_iconst (q := 18) (v := (0 : Int32)) hx (dc kX2_readSame_0 9 rfl) (by decide) rfl ?_
    exact r_cW hx (Or.inl rfl) hR (dc kX2_readSame_0 10 rfl)

set_option maxHeartbeats 4000000 in
set_option maxRecDepth 100000 in
theorem sX2_readLimit (l : Launch) (w : Wd) (x0 : Nat) (h : Hp) (u : (Int32 × Hp)) (hK : mX2_readLimit x0 h = some u) : M1 l w mi_X2_readLimit 3 [vR w x0] h u.2 (some (.int u.1)) := by
  refine M1.of (own := RX2) (T := fun _ r => r = u) hK (by decide +kernel) rfl (by first | (simp only [lg_lenR, lg_lenI, lg_lenL, lg_len0]; decide) | decide) (fun x hx hnl hhf hl hw hret hnm hQ h0e => ⟨?_, rfl⟩)
  subst hw
  subst hl
  have hR : Rt x h u.2 (some (.int u.1)) ((some .boolean)) := ⟨h0e, hhf, hret, hQ⟩
  have hn : ∀ i, i < 1 → i < x.2.2.1.1.1 := fun i hi => by rw [hnl]; exact hi
  have e0 : lv_args 0 [vR x.2.2.2 x0] = [(0, vR x.2.2.2 x0)] := by simp only [lv_argsR, lv_argsI, lv_argsL, lv_args0]
  rw [e0]
  unfold mX2_readLimit
  refine J.ckd fun hck => ?_
  refine j_aload_n (q := 1) hx (dc kX2_readLimit_0 0 rfl) rfl 0 rfl rfl ?_
  refine w_gR (q := 4) hx (dc kX2_readLimit_0 1 rfl) ff_X2_3 lk_X2_26 rfl (fun v1 => ?_)
  refine w_gI (q := 7) hx (dc kX2_readLimit_0 2 rfl) ff_X1_5 lk_X2_197 rfl (fun v2 => ?_)
  refine j_if_eq (q := 10) (tgt := 16) hx (dc kX2_readLimit_0 3 rfl) (by decide) Iff.rfl rfl ?_ ?_
  · refine j_aload_n (q := 17) hx (dc kX2_readLimit_0 8 rfl) rfl 0 rfl rfl ?_
    refine j_dup (q := 18) hx (dc kX2_readLimit_0 9 rfl) (vR_cat _ _) rfl ?_
    refine w_gI (q := 21) hx (dc kX2_readLimit_0 10 rfl) ff_X2_5 lk_X2_65 rfl (fun v3 => ?_)
    refine j_iconst (q := 22) (v := (1 : Int32)) hx (dc kX2_readLimit_0 11 rfl) (by decide) rfl ?_
    refine j_iadd (q := 23) hx (dc kX2_readLimit_0 12 rfl) rfl ?_
    refine w_sI (q := 26) hx (dc kX2_readLimit_0 13 rfl) ff_X2_5 rfl lk_X2_65 (Or.inl rfl) rfl (fun h4 => ?_)
    refine j_aload_n (q := 27) hx (dc kX2_readLimit_0 14 rfl) rfl 0 rfl rfl ?_
    refine j_iconst (q := 28) (v := (1 : Int32)) hx (dc kX2_readLimit_0 15 rfl) (by decide) rfl ?_
    refine j_sipush (q := 31) (v := (999 : Int32)) hx (dc kX2_readLimit_0 16 rfl) (by decide) rfl ?_
    refine w_cVIW (q := 34) (As := [.int (1 : Int32), .int (999 : Int32)]) (st := []) hx (dc kX2_readLimit_0 17 rfl) cf2 (by decide) rfl (cI _ my_X2_number lm_X2_104 (by decide)) vs_X2_number rfl (fun u hu => sX2_number _ _ _ _ _ _ _ hu) (fun e => ite_ne (by unfold mX2_number at e; exact e)) (Nat.zero_le _) rfl (fun v5 h6 => ?_)
    refine j_if_neS (q := 37) (tgt := 39) hx (dc kX2_readLimit_0 18 rfl) (by decide) rfl ?_ ?_
    · refine j_aload_n (q := 40) hx (dc kX2_readLimit_0 21 rfl) rfl 0 rfl rfl ?_
      refine w_gR (q := 43) hx (dc kX2_readLimit_0 22 rfl) ff_X2_3 lk_X2_26 rfl (fun v7 => ?_)
      refine j_aload_n (q := 44) hx (dc kX2_readLimit_0 23 rfl) rfl 0 rfl rfl ?_
      refine w_gI (q := 47) hx (dc kX2_readLimit_0 24 rfl) ff_X2_6 lk_X2_101 rfl (fun v8 => ?_)
      refine w_sI (q := 50) hx (dc kX2_readLimit_0 25 rfl) ff_X1_5 rfl lk_X2_197 (Or.inl rfl) rfl (fun h9 => ?_)
      refine j_aload_n (q := 51) hx (dc kX2_readLimit_0 26 rfl) rfl 0 rfl rfl ?_
      refine j_bipush (q := 53) (v := (59 : Int32)) hx (dc kX2_readLimit_0 27 rfl) (by decide) rfl ?_
      refine w_cVIW (q := 56) (As := [.int (59 : Int32)]) (st := []) hx (dc kX2_readLimit_0 28 rfl) cf2 (by decide) rfl (cI _ my_X2_expect lm_X2_62 (by decide)) vs_X2_expect rfl (fun u hu => sX2_expect _ _ _ _ _ _ hu) (fun e => ite_ne (by unfold mX2_expect at e; exact e)) (Nat.zero_le _) rfl (fun v10 h11 => ?_)
      exact r_zW hx hR (dc kX2_readLimit_0 29 rfl)
    · refine j_iconst (q := 38) (v := (0 : Int32)) hx (dc kX2_readLimit_0 19 rfl) (by decide) rfl ?_
      exact r_cW hx (Or.inl rfl) hR (dc kX2_readLimit_0 20 rfl)
  · refine j_aload_n (q := 11) hx (dc kX2_readLimit_0 4 rfl) rfl 0 rfl rfl ?_
    refine j_iconst (q := 12) (v := (3 : Int32)) hx (dc kX2_readLimit_0 5 rfl) (by decide) rfl ?_
    refine w_cVIW (q := 15) (As := [.int (3 : Int32)]) (st := []) hx (dc kX2_readLimit_0 6 rfl) cf2 (by decide) rfl (cI _ my_X2_fail lm_X2_92 (by decide)) vs_X2_fail rfl (fun u hu => sX2_fail _ _ _ _ _ _ hu) (fun e => ite_ne (by unfold mX2_fail at e; exact e)) (Nat.zero_le _) rfl (fun v12 h13 => ?_)
    exact r_zW hx hR (dc kX2_readLimit_0 7 rfl)

set_option maxHeartbeats 4000000 in
set_option maxRecDepth 100000 in
theorem sX2_readLine (l : Launch) (w : Wd) (x0 : Nat) (h : Hp) (u : (Int32 × Hp)) (hK : mX2_readLine x0 h = some u) : M1 l w mi_X2_readLine 46 [vR w x0] h u.2 (some (.int u.1)) := by
  refine M1.of (own := RX2) (T := fun _ r => r = u) hK (by decide +kernel) rfl (by first | (simp only [lg_lenR, lg_lenI, lg_lenL, lg_len0]; decide) | decide) (fun x hx hnl hhf hl hw hret hnm hQ h0e => ⟨?_, rfl⟩)
  subst hw
  subst hl
  have hR : Rt x h u.2 (some (.int u.1)) ((some .boolean)) := ⟨h0e, hhf, hret, hQ⟩
  have hn : ∀ i, i < 1 → i < x.2.2.1.1.1 := fun i hi => by rw [hnl]; exact hi
  have e0 : lv_args 0 [vR x.2.2.2 x0] = [(0, vR x.2.2.2 x0)] := by simp only [lv_argsR, lv_argsI, lv_argsL, lv_args0]
  rw [e0]
  unfold mX2_readLine
  refine J.ckd fun hck => ?_
  refine j_aload_n (q := 1) hx (dc kX2_readLine_0 0 rfl) rfl 0 rfl rfl ?_
  refine w_cVIR (q := 4) (As := []) (st := []) hx (dc kX2_readLine_0 1 rfl) cf2 (by decide) rfl (cI _ my_X2_nextKind lm_X2_46 (by decide)) vs_X2_nextKind rfl (fun u hu => sX2_nextKind _ _ _ _ _ hu) (fun e => ite_ne (by unfold mX2_nextKind at e; exact e)) (Nat.zero_le _) rfl (fun v1 => ?_)
  refine j_tsw (td := 95) hx (dc kX2_readLine_0 2 rfl) (by decide) (by decide) ?_ ?_
  · refine j_aload_n (q := 96) hx (dc kX2_readLine_0 24 rfl) rfl 0 rfl rfl ?_
    refine j_iconst (q := 97) (v := (1 : Int32)) hx (dc kX2_readLine_0 25 rfl) (by decide) rfl ?_
    refine w_cVIW (q := 100) (As := [.int (1 : Int32)]) (st := []) hx (dc kX2_readLine_0 26 rfl) cf2 (by decide) rfl (cI _ my_X2_fail lm_X2_92 (by decide)) vs_X2_fail rfl (fun u hu => sX2_fail _ _ _ _ _ _ hu) (fun e => ite_ne (by unfold mX2_fail at e; exact e)) (Nat.zero_le _) rfl (fun v3 h4 => ?_)
    exact r_zW hx hR (dc kX2_readLine_0 27 rfl)
  · refine ⟨⟨60, by decide, ?_⟩, ⟨65, by decide, ?_⟩, ⟨70, by decide, ?_⟩, ⟨95, by decide, ?_⟩, ⟨95, by decide, ?_⟩, ⟨95, by decide, ?_⟩, ⟨75, by decide, ?_⟩, ⟨80, by decide, ?_⟩, ⟨85, by decide, ?_⟩, ⟨90, by decide, ?_⟩, trivial⟩
    · refine j_aload_n (q := 61) hx (dc kX2_readLine_0 3 rfl) rfl 0 rfl rfl ?_
      refine w_cVIW (q := 64) (As := []) (st := []) hx (dc kX2_readLine_0 4 rfl) cf2 (by decide) rfl (cI _ my_X2_readFact lm_X2_71 (by decide)) vs_X2_readFact rfl (fun u hu => sX2_readFact _ _ _ _ _ hu) (fun e => ite_ne (by unfold mX2_readFact at e; exact e)) (Nat.zero_le _) rfl (fun v5 h6 => ?_)
      exact r_zW hx hR (dc kX2_readLine_0 5 rfl)
    · refine j_aload_n (q := 66) hx (dc kX2_readLine_0 6 rfl) rfl 0 rfl rfl ?_
      refine w_cVIW (q := 69) (As := []) (st := []) hx (dc kX2_readLine_0 7 rfl) cf2 (by decide) rfl (cI _ my_X2_readNever lm_X2_74 (by decide)) vs_X2_readNever rfl (fun u hu => sX2_readNever _ _ _ _ _ hu) (fun e => ite_ne (by unfold mX2_readNever at e; exact e)) (Nat.zero_le _) rfl (fun v7 h8 => ?_)
      exact r_zW hx hR (dc kX2_readLine_0 8 rfl)
    · refine j_aload_n (q := 71) hx (dc kX2_readLine_0 9 rfl) rfl 0 rfl rfl ?_
      refine w_cVIW (q := 74) (As := []) (st := []) hx (dc kX2_readLine_0 10 rfl) cf2 (by decide) rfl (cI _ my_X2_readCount lm_X2_77 (by decide)) vs_X2_readCount rfl (fun u hu => sX2_readCount _ _ _ _ _ hu) (fun e => ite_ne (by unfold mX2_readCount at e; exact e)) (Nat.zero_le _) rfl (fun v9 h10 => ?_)
      exact r_zW hx hR (dc kX2_readLine_0 11 rfl)
    · refine j_aload_n (q := 96) hx (dc kX2_readLine_0 24 rfl) rfl 0 rfl rfl ?_
      refine j_iconst (q := 97) (v := (1 : Int32)) hx (dc kX2_readLine_0 25 rfl) (by decide) rfl ?_
      refine w_cVIW (q := 100) (As := [.int (1 : Int32)]) (st := []) hx (dc kX2_readLine_0 26 rfl) cf2 (by decide) rfl (cI _ my_X2_fail lm_X2_92 (by decide)) vs_X2_fail rfl (fun u hu => sX2_fail _ _ _ _ _ _ hu) (fun e => ite_ne (by unfold mX2_fail at e; exact e)) (Nat.zero_le _) rfl (fun v11 h12 => ?_)
      exact r_zW hx hR (dc kX2_readLine_0 27 rfl)
    · refine j_aload_n (q := 96) hx (dc kX2_readLine_0 24 rfl) rfl 0 rfl rfl ?_
      refine j_iconst (q := 97) (v := (1 : Int32)) hx (dc kX2_readLine_0 25 rfl) (by decide) rfl ?_
      refine w_cVIW (q := 100) (As := [.int (1 : Int32)]) (st := []) hx (dc kX2_readLine_0 26 rfl) cf2 (by decide) rfl (cI _ my_X2_fail lm_X2_92 (by decide)) vs_X2_fail rfl (fun u hu => sX2_fail _ _ _ _ _ _ hu) (fun e => ite_ne (by unfold mX2_fail at e; exact e)) (Nat.zero_le _) rfl (fun v13 h14 => ?_)
      exact r_zW hx hR (dc kX2_readLine_0 27 rfl)
    · refine j_aload_n (q := 96) hx (dc kX2_readLine_0 24 rfl) rfl 0 rfl rfl ?_
      refine j_iconst (q := 97) (v := (1 : Int32)) hx (dc kX2_readLine_0 25 rfl) (by decide) rfl ?_
      refine w_cVIW (q := 100) (As := [.int (1 : Int32)]) (st := []) hx (dc kX2_readLine_0 26 rfl) cf2 (by decide) rfl (cI _ my_X2_fail lm_X2_92 (by decide)) vs_X2_fail rfl (fun u hu => sX2_fail _ _ _ _ _ _ hu) (fun e => ite_ne (by unfold mX2_fail at e; exact e)) (Nat.zero_le _) rfl (fun v15 h16 => ?_)
      exact r_zW hx hR (dc kX2_readLine_0 27 rfl)
    · refine j_aload_n (q := 76) hx (dc kX2_readLine_0 12 rfl) rfl 0 rfl rfl ?_
      refine w_cVIW (q := 79) (As := []) (st := []) hx (dc kX2_readLine_0 13 rfl) cf2 (by decide) rfl (cI _ my_X2_readPlea lm_X2_80 (by decide)) vs_X2_readPlea rfl (fun u hu => sX2_readPlea _ _ _ _ _ hu) (fun e => ite_ne (by unfold mX2_readPlea at e; exact e)) (Nat.zero_le _) rfl (fun v17 h18 => ?_)
      exact r_zW hx hR (dc kX2_readLine_0 14 rfl)
    · refine j_aload_n (q := 81) hx (dc kX2_readLine_0 15 rfl) rfl 0 rfl rfl ?_
      refine w_cVIW (q := 84) (As := []) (st := []) hx (dc kX2_readLine_0 16 rfl) cf2 (by decide) rfl (cI _ my_X2_readSays lm_X2_83 (by decide)) vs_X2_readSays rfl (fun u hu => sX2_readSays _ _ _ _ _ hu) (fun e => ite_ne (by unfold mX2_readSays at e; exact e)) (Nat.zero_le _) rfl (fun v19 h20 => ?_)
      exact r_zW hx hR (dc kX2_readLine_0 17 rfl)
    · refine j_aload_n (q := 86) hx (dc kX2_readLine_0 18 rfl) rfl 0 rfl rfl ?_
      refine w_cVIW (q := 89) (As := []) (st := []) hx (dc kX2_readLine_0 19 rfl) cf2 (by decide) rfl (cI _ my_X2_readSame lm_X2_86 (by decide)) vs_X2_readSame rfl (fun u hu => sX2_readSame _ _ _ _ _ hu) (fun e => ite_ne (by unfold mX2_readSame at e; exact e)) (Nat.zero_le _) rfl (fun v21 h22 => ?_)
      exact r_zW hx hR (dc kX2_readLine_0 20 rfl)
    · refine j_aload_n (q := 91) hx (dc kX2_readLine_0 21 rfl) rfl 0 rfl rfl ?_
      refine w_cVIW (q := 94) (As := []) (st := []) hx (dc kX2_readLine_0 22 rfl) cf2 (by decide) rfl (cI _ my_X2_readLimit lm_X2_89 (by decide)) vs_X2_readLimit rfl (fun u hu => sX2_readLimit _ _ _ _ _ hu) (fun e => ite_ne (by unfold mX2_readLimit at e; exact e)) (Nat.zero_le _) rfl (fun v23 h24 => ?_)
      exact r_zW hx hR (dc kX2_readLine_0 23 rfl)

set_option maxHeartbeats 4000000 in
set_option maxRecDepth 100000 in
theorem sX2_readSuit (l : Launch) (w : Wd) (x0 : Nat) (x1 : Nat) (x2 : Nat) (h : Hp) (u : (Int32 × Hp)) (hK : mX2_readSuit x0 x1 x2 h = some u) : M1 l w mi_X2_readSuit 47 [vR w x0, vR w x1, vR w x2] h u.2 (some (.int u.1)) := by
  refine M1.of (own := RX2) (T := fun _ r => r = u) hK (by decide +kernel) rfl (by first | (simp only [lg_lenR, lg_lenI, lg_lenL, lg_len0]; decide) | decide) (fun x hx hnl hhf hl hw hret hnm hQ h0e => ⟨?_, rfl⟩)
  subst hw
  subst hl
  have hR : Rt x h u.2 (some (.int u.1)) ((some .boolean)) := ⟨h0e, hhf, hret, hQ⟩
  have hn : ∀ i, i < 4 → i < x.2.2.1.1.1 := fun i hi => by rw [hnl]; exact hi
  have e0 : lv_args 0 [vR x.2.2.2 x0, vR x.2.2.2 x1, vR x.2.2.2 x2] = [(0, vR x.2.2.2 x0), (1, vR x.2.2.2 x1), (2, vR x.2.2.2 x2)] := by simp only [lv_argsR, lv_argsI, lv_argsL, lv_args0]
  rw [e0]
  have hb26 : ∀ (x0 : Nat) (x3 : Int32) (h : Hp), J x 26 [(0, vR x.2.2.2 x0), (3, .int x3)] [] h (mX2_readSuit_l26 x0 x3 h) (fun r => r = u) := by
    intro x0 x3 h
    have hB : ∀ (x3 : Int32) (h : Hp), J x 26 [(0, vR x.2.2.2 x0), (3, .int x3)] [] h (mX2_readSuit_l26f x0 x3 h) (TLo (S := (Int32 × Hp)) x 26 (fun s => [(0, vR x.2.2.2 x0), (3, .int s.1)]) [] (fun s => s.2) (fun r => r = u)) := by
      intro x3 h
      unfold mX2_readSuit_l26f
      refine j_iload_n (q := 27) hx (dc kX2_readSuit_0 14 rfl) rfl 1 rfl rfl ?_
      refine j_sipush (q := 30) (v := (480 : Int32)) hx (dc kX2_readSuit_0 15 rfl) (by decide) rfl ?_
      refine j_icmp_geS (q := 33) (tgt := 68) hx (dc kX2_readSuit_0 16 rfl) (by decide) rfl ?_ ?_
      · refine j_exit ?_
        refine j_iconst (q := 69) (v := (1 : Int32)) hx (dc kX2_readSuit_0 34 rfl) (by decide) rfl ?_
        exact r_cW hx (Or.inr rfl) hR (dc kX2_readSuit_0 35 rfl)
      · refine j_aload_n (q := 34) hx (dc kX2_readSuit_0 17 rfl) rfl 0 rfl rfl ?_
        refine w_cVIR (q := 37) (As := []) (st := []) hx (dc kX2_readSuit_0 18 rfl) cf2 (by decide) rfl (cI _ my_X2_nextKind lm_X2_46 (by decide)) vs_X2_nextKind rfl (fun u hu => sX2_nextKind _ _ _ _ _ hu) (fun e => ite_ne (by unfold mX2_nextKind at e; exact e)) (Nat.zero_le _) rfl (fun v10 => ?_)
        refine j_if_eq (q := 40) (tgt := 68) hx (dc kX2_readSuit_0 19 rfl) (by decide) Iff.rfl rfl ?_ ?_
        · refine j_exit ?_
          refine j_iconst (q := 69) (v := (1 : Int32)) hx (dc kX2_readSuit_0 34 rfl) (by decide) rfl ?_
          exact r_cW hx (Or.inr rfl) hR (dc kX2_readSuit_0 35 rfl)
        · refine j_aload_n (q := 41) hx (dc kX2_readSuit_0 20 rfl) rfl 0 rfl rfl ?_
          refine w_cVIW (q := 44) (As := []) (st := []) hx (dc kX2_readSuit_0 21 rfl) cf2 (by decide) rfl (cI _ my_X2_readLine lm_X2_50 (by decide)) vs_X2_readLine rfl (fun u hu => sX2_readLine _ _ _ _ _ hu) (fun e => ite_ne (by unfold mX2_readLine at e; exact e)) (Nat.zero_le _) rfl (fun v12 h13 => ?_)
          refine j_if_neS (q := 47) (tgt := 49) hx (dc kX2_readSuit_0 22 rfl) (by decide) rfl ?_ ?_
          · refine j_aload_n (q := 50) hx (dc kX2_readSuit_0 25 rfl) rfl 0 rfl rfl ?_
            refine w_gR (q := 53) hx (dc kX2_readSuit_0 26 rfl) ff_X2_3 lk_X2_26 rfl (fun v14 => ?_)
            refine j_dup (q := 54) hx (dc kX2_readSuit_0 27 rfl) (vR_cat _ _) rfl ?_
            refine w_gI (q := 57) hx (dc kX2_readSuit_0 28 rfl) ff_X1_0 lk_X2_54 rfl (fun v15 => ?_)
            refine j_iconst (q := 58) (v := (1 : Int32)) hx (dc kX2_readSuit_0 29 rfl) (by decide) rfl ?_
            refine j_iadd (q := 59) hx (dc kX2_readSuit_0 30 rfl) rfl ?_
            refine w_sI (q := 62) hx (dc kX2_readSuit_0 31 rfl) ff_X1_0 rfl lk_X2_54 (Or.inl rfl) rfl (fun h16 => ?_)
            refine j_iinc (q := 65) (l2 := [(0, vR x.2.2.2 x0)]) hx (dc kX2_readSuit_0 32 rfl) 1 rfl (v := (1 : Int32)) (by decide) (hn 3 (by decide)) [0] rfl ⟨⟨show (0 : Nat) ≠ 3 by decide, Or.inl (show (0 : Nat) + 1 ≠ 3 by decide)⟩, trivial⟩ rfl ?_
            refine j_goto (q := 26) hx (dc kX2_readSuit_0 33 rfl) (by decide) ?_
            exact j_back [1, 0] ((x3 + (1 : Int32)), h16) rfl rfl
          · refine j_exit ?_
            refine j_iconst (q := 48) (v := (0 : Int32)) hx (dc kX2_readSuit_0 23 rfl) (by decide) rfl ?_
            exact r_cW hx (Or.inl rfl) hR (dc kX2_readSuit_0 24 rfl)
    exact j_loop (S := (Int32 × Hp)) (lvf := fun s => [(0, vR x.2.2.2 x0), (3, .int s.1)]) (hpf := fun s => s.2) (f := (fun s : (Int32 × Hp) => mX2_readSuit_l26f x0 s.1 s.2)) (fun s => hB s.1 s.2) (x3, h)
  unfold mX2_readSuit
  refine J.ckd fun hck => ?_
  refine j_aload_n (q := 1) hx (dc kX2_readSuit_0 0 rfl) rfl 0 rfl rfl ?_
  refine j_aload_n (q := 2) hx (dc kX2_readSuit_0 1 rfl) rfl 1 rfl rfl ?_
  refine w_cVVW (q := 5) (As := [vR x.2.2.2 x1]) (st := []) hx (dc kX2_readSuit_0 2 rfl) cf2 (by decide) rfl (cI _ my_X2_begin lm_X2_34 (by decide)) vs_X2_begin rfl (fun u hu => sX2_begin _ _ _ _ _ _ hu) (fun e => ite_ne (by unfold mX2_begin at e; exact e)) (Nat.zero_le _) rfl (fun h2 => ?_)
  refine j_aload_n (q := 6) hx (dc kX2_readSuit_0 3 rfl) rfl 0 rfl rfl ?_
  refine j_aload_n (q := 7) hx (dc kX2_readSuit_0 4 rfl) rfl 2 rfl rfl ?_
  refine w_sR (q := 10) hx (dc kX2_readSuit_0 5 rfl) ff_X2_4 lk_X2_30 (Or.inl rfl) rfl (fun h3 => ?_)
  refine j_aload_n (q := 11) hx (dc kX2_readSuit_0 6 rfl) rfl 0 rfl rfl ?_
  refine w_gR (q := 14) hx (dc kX2_readSuit_0 7 rfl) ff_X2_3 lk_X2_26 rfl (fun v4 => ?_)
  refine w_cVVW (q := 17) (As := []) (st := []) hx (dc kX2_readSuit_0 8 rfl) cf1 (by decide) rfl (cI _ my_X1_clear lm_X2_38 (by decide)) vs_X1_clear rfl (fun u hu => sX1_clear _ _ _ _ _ hu) (fun e => ite_ne (by unfold mX1_clear at e; exact e)) (Nat.zero_le _) rfl (fun h6 => ?_)
  refine j_aload_n (q := 18) hx (dc kX2_readSuit_0 9 rfl) rfl 0 rfl rfl ?_
  refine w_gR (q := 21) hx (dc kX2_readSuit_0 10 rfl) ff_X2_4 lk_X2_30 rfl (fun v7 => ?_)
  refine w_cVVW (q := 24) (As := []) (st := []) hx (dc kX2_readSuit_0 11 rfl) cf5 (by decide) rfl (cI _ my_X5_clear lm_X2_43 (by decide)) vs_X5_clear rfl (fun u hu => sX5_clear _ _ _ _ _ hu) (fun e => ite_ne (by unfold mX5_clear at e; exact e)) (Nat.zero_le _) rfl (fun h9 => ?_)
  refine j_iconst (q := 25) (v := (0 : Int32)) hx (dc kX2_readSuit_0 12 rfl) (by decide) rfl ?_
  refine j_istore_n (q := 26) (i := 3) (l2 := [(0, vR x.2.2.2 x0)]) hx (dc kX2_readSuit_0 13 rfl) rfl (hn 3 (by decide)) [0] rfl ⟨⟨show (0 : Nat) ≠ 3 by decide, Or.inl (show (0 : Nat) + 1 ≠ 3 by decide)⟩, trivial⟩ rfl ?_
  exact j_sub [1, 0] rfl (hb26 x0 (0 : Int32) h9)

set_option maxHeartbeats 4000000 in
set_option maxRecDepth 100000 in
theorem sX2_readQuestion (l : Launch) (w : Wd) (x0 : Nat) (x1 : Nat) (h : Hp) (u : (Int32 × Hp)) (hK : mX2_readQuestion x0 x1 h = some u) : M1 l w mi_X2_readQuestion 44 [vR w x0, vR w x1] h u.2 (some (.int u.1)) := by
  refine M1.of (own := RX2) (T := fun _ r => r = u) hK (by decide +kernel) rfl (by first | (simp only [lg_lenR, lg_lenI, lg_lenL, lg_len0]; decide) | decide) (fun x hx hnl hhf hl hw hret hnm hQ h0e => ⟨?_, rfl⟩)
  subst hw
  subst hl
  have hR : Rt x h u.2 (some (.int u.1)) ((some .boolean)) := ⟨h0e, hhf, hret, hQ⟩
  have hn : ∀ i, i < 2 → i < x.2.2.1.1.1 := fun i hi => by rw [hnl]; exact hi
  have e0 : lv_args 0 [vR x.2.2.2 x0, vR x.2.2.2 x1] = [(0, vR x.2.2.2 x0), (1, vR x.2.2.2 x1)] := by simp only [lv_argsR, lv_argsI, lv_argsL, lv_args0]
  rw [e0]
  unfold mX2_readQuestion
  refine J.ckd fun hck => ?_
  refine j_aload_n (q := 1) hx (dc kX2_readQuestion_0 0 rfl) rfl 0 rfl rfl ?_
  refine j_aload_n (q := 2) hx (dc kX2_readQuestion_0 1 rfl) rfl 1 rfl rfl ?_
  refine w_cVVW (q := 5) (As := [vR x.2.2.2 x1]) (st := []) hx (dc kX2_readQuestion_0 2 rfl) cf2 (by decide) rfl (cI _ my_X2_begin lm_X2_34 (by decide)) vs_X2_begin rfl (fun u hu => sX2_begin _ _ _ _ _ _ hu) (fun e => ite_ne (by unfold mX2_begin at e; exact e)) (Nat.zero_le _) rfl (fun h2 => ?_)
  refine j_aload_n (q := 6) hx (dc kX2_readQuestion_0 3 rfl) rfl 0 rfl rfl ?_
  refine j_iconst (q := 7) (v := (0 : Int32)) hx (dc kX2_readQuestion_0 4 rfl) (by decide) rfl ?_
  refine w_cVIW (q := 10) (As := [.int (0 : Int32)]) (st := []) hx (dc kX2_readQuestion_0 5 rfl) cf2 (by decide) rfl (cI _ my_X2_readEither lm_X2_58 (by decide)) vs_X2_readEither rfl (fun u hu => sX2_readEither 40 _ _ _ _ _ _ hu) (kX2_readEither 40 _ _ _) (Nat.zero_le _) rfl (fun v3 h4 => ?_)
  refine j_if_eq (q := 13) (tgt := 25) hx (dc kX2_readQuestion_0 6 rfl) (by decide) Iff.rfl rfl ?_ ?_
  · refine j_iconst (q := 26) (v := (0 : Int32)) hx (dc kX2_readQuestion_0 13 rfl) (by decide) rfl ?_
    exact r_cW hx (Or.inl rfl) hR (dc kX2_readQuestion_0 14 rfl)
  · refine j_aload_n (q := 14) hx (dc kX2_readQuestion_0 7 rfl) rfl 0 rfl rfl ?_
    refine j_iconst (q := 15) (v := (0 : Int32)) hx (dc kX2_readQuestion_0 8 rfl) (by decide) rfl ?_
    refine w_cVIW (q := 18) (As := [.int (0 : Int32)]) (st := []) hx (dc kX2_readQuestion_0 9 rfl) cf2 (by decide) rfl (cI _ my_X2_expect lm_X2_62 (by decide)) vs_X2_expect rfl (fun u hu => sX2_expect _ _ _ _ _ _ hu) (fun e => ite_ne (by unfold mX2_expect at e; exact e)) (Nat.zero_le _) rfl (fun v5 h6 => ?_)
    refine j_if_eq (q := 21) (tgt := 25) hx (dc kX2_readQuestion_0 10 rfl) (by decide) Iff.rfl rfl ?_ ?_
    · refine j_iconst (q := 26) (v := (0 : Int32)) hx (dc kX2_readQuestion_0 13 rfl) (by decide) rfl ?_
      exact r_cW hx (Or.inl rfl) hR (dc kX2_readQuestion_0 14 rfl)
    · refine j_iconst (q := 22) (v := (1 : Int32)) hx (dc kX2_readQuestion_0 11 rfl) (by decide) rfl ?_
      refine j_goto (q := 26) hx (dc kX2_readQuestion_0 12 rfl) (by decide) ?_
      exact r_cW hx (Or.inr rfl) hR (dc kX2_readQuestion_0 14 rfl)

set_option maxHeartbeats 4000000 in
set_option maxRecDepth 100000 in
theorem sX3_init {x0 : Nat} (hvx0 : x0 ≠ 0) (l : Launch) (w : Wd) (h : Hp) (u : Unit) (hK : mX3_init x0 h = some u) : M1 l w mi_X3_init 1 [vR w x0] h h (none) := by
  refine M1.of (own := RX3) (T := fun _ r => r = u) hK (by decide +kernel) rfl (by first | (simp only [lg_lenR, lg_lenI, lg_lenL, lg_len0]; decide) | decide) (fun x hx hnl hhf hl hw hret hnm hQ h0e => ⟨?_, rfl⟩)
  subst hw
  subst hl
  have hR : Rt x h h (none) (none) := ⟨h0e, hhf, hret, hQ⟩
  have hn : ∀ i, i < 1 → i < x.2.2.1.1.1 := fun i hi => by rw [hnl]; exact hi
  have e0 : lv_args 0 [vR x.2.2.2 x0] = [(0, vR x.2.2.2 x0)] := by simp only [lv_argsR, lv_argsI, lv_argsL, lv_args0]
  rw [e0]
  unfold mX3_init
  refine j_aload_n (q := 1) hx (dc kX3_init_0 0 rfl) rfl 0 rfl rfl ?_
  refine j_obj (q := 4) hx (dc kX3_init_0 1 rfl) lo_X3_3 hvx0 (by decide) (Nat.zero_le _) rfl ?_
  exact r_vR hx hR (dc kX3_init_0 2 rfl)

set_option maxHeartbeats 4000000 in
set_option maxRecDepth 100000 in
theorem sX3_start (l : Launch) (w : Wd) (x0 : Nat) (x1 : Int32) (h : Hp) (u : Hp) (hK : mX3_start x0 x1 h = some u) : M1 l w mi_X3_start 1 [vR w x0, .int x1] h u (none) := by
  refine M1.of (own := RX3) (T := fun _ r => r = u) hK (by decide +kernel) rfl (by first | (simp only [lg_lenR, lg_lenI, lg_lenL, lg_len0]; decide) | decide) (fun x hx hnl hhf hl hw hret hnm hQ h0e => ⟨?_, rfl⟩)
  subst hw
  subst hl
  have hR : Rt x h u (none) (none) := ⟨h0e, hhf, hret, hQ⟩
  have hn : ∀ i, i < 2 → i < x.2.2.1.1.1 := fun i hi => by rw [hnl]; exact hi
  have e0 : lv_args 0 [vR x.2.2.2 x0, .int x1] = [(0, vR x.2.2.2 x0), (1, .int x1)] := by simp only [lv_argsR, lv_argsI, lv_argsL, lv_args0]
  rw [e0]
  unfold mX3_start
  refine J.ckd fun hck => ?_
  refine j_aload_n (q := 1) hx (dc kX3_start_0 0 rfl) rfl 0 rfl rfl ?_
  refine j_iload_n (q := 2) hx (dc kX3_start_0 1 rfl) rfl 1 rfl rfl ?_
  refine w_sI (q := 5) hx (dc kX3_start_0 2 rfl) ff_X3_0 rfl lk_X3_9 (Or.inl rfl) rfl (fun h1 => ?_)
  refine j_aload_n (q := 6) hx (dc kX3_start_0 3 rfl) rfl 0 rfl rfl ?_
  refine j_iconst (q := 7) (v := (0 : Int32)) hx (dc kX3_start_0 4 rfl) (by decide) rfl ?_
  refine w_sI (q := 10) hx (dc kX3_start_0 5 rfl) ff_X3_1 rfl lk_X3_15 (Or.inl rfl) rfl (fun h2 => ?_)
  refine j_aload_n (q := 11) hx (dc kX3_start_0 6 rfl) rfl 0 rfl rfl ?_
  refine j_iconst (q := 12) (v := (0 : Int32)) hx (dc kX3_start_0 7 rfl) (by decide) rfl ?_
  refine w_sI (q := 15) hx (dc kX3_start_0 8 rfl) ff_X3_2 rfl lk_X3_18 (Or.inl rfl) rfl (fun h3 => ?_)
  refine j_aload_n (q := 16) hx (dc kX3_start_0 9 rfl) rfl 0 rfl rfl ?_
  refine j_iconst (q := 17) (v := (0 : Int32)) hx (dc kX3_start_0 10 rfl) (by decide) rfl ?_
  refine w_sI (q := 20) hx (dc kX3_start_0 11 rfl) ff_X3_3 rfl lk_X3_21 (Or.inl rfl) rfl (fun h4 => ?_)
  refine j_aload_n (q := 21) hx (dc kX3_start_0 12 rfl) rfl 0 rfl rfl ?_
  refine j_iconst (q := 22) (v := (0 : Int32)) hx (dc kX3_start_0 13 rfl) (by decide) rfl ?_
  refine w_sZ (q := 25) hx (dc kX3_start_0 14 rfl) ff_X3_4 rfl lk_X3_24 (Or.inl rfl) rfl (fun h5 => ?_)
  exact r_vW hx hR (dc kX3_start_0 15 rfl)

set_option maxHeartbeats 4000000 in
set_option maxRecDepth 100000 in
theorem sJ6_bitCount_0f7a4 (l : Launch) (w : Wd) (x0 : Int32) (h : Hp) (u : Int32) (hK : mJ6_bitCount_0f7a4 x0 = some u) : M1 l w mi_J6_bitCount_0f7a4 1 [.int x0] h h (some (.int u)) := by
  refine M1.of (own := RJ6) (T := fun _ r => r = u) hK (by decide +kernel) rfl (by first | (simp only [lg_lenR, lg_lenI, lg_lenL, lg_len0]; decide) | decide) (fun x hx hnl hhf hl hw hret hnm hQ h0e => ⟨?_, rfl⟩)
  subst hw
  subst hl
  have hR : Rt x h h (some (.int u)) ((some .int)) := ⟨h0e, hhf, hret, hQ⟩
  have hn : ∀ i, i < 1 → i < x.2.2.1.1.1 := fun i hi => by rw [hnl]; exact hi
  have e0 : lv_args 0 [.int x0] = [(0, .int x0)] := by simp only [lv_argsR, lv_argsI, lv_argsL, lv_args0]
  rw [e0]
  have hb41 : ∀ (x0 : Int32), J x 41 [(0, .int x0)] [] h (mJ6_bitCount_0f7a4_b41 x0) (fun r => r = u) := by
    intro x0
    unfold mJ6_bitCount_0f7a4_b41
    refine j_iload_n (q := 42) hx (dc kJ6_bitCount_0f7a4_0 32 rfl) rfl 0 rfl rfl ?_
    refine j_iload_n (q := 43) hx (dc kJ6_bitCount_0f7a4_0 33 rfl) rfl 0 rfl rfl ?_
    refine j_bipush (q := 45) (v := (16 : Int32)) hx (dc kJ6_bitCount_0f7a4_0 34 rfl) (by decide) rfl ?_
    refine j_iushr (q := 46) hx (dc kJ6_bitCount_0f7a4_0 35 rfl) rfl ?_
    refine j_iadd (q := 47) hx (dc kJ6_bitCount_0f7a4_0 36 rfl) rfl ?_
    refine j_istore_n (q := 48) (i := 0) (l2 := []) hx (dc kJ6_bitCount_0f7a4_0 37 rfl) rfl (hn 0 (by decide)) [] rfl trivial rfl ?_
    refine j_iload_n (q := 49) hx (dc kJ6_bitCount_0f7a4_0 38 rfl) rfl 0 rfl rfl ?_
    refine j_bipush (q := 51) (v := (63 : Int32)) hx (dc kJ6_bitCount_0f7a4_0 39 rfl) (by decide) rfl ?_
    refine j_iand (q := 52) hx (dc kJ6_bitCount_0f7a4_0 40 rfl) rfl ?_
    exact r_iR hx hR (dc kJ6_bitCount_0f7a4_0 41 rfl)
  have hb24 : ∀ (x0 : Int32), J x 24 [(0, .int x0)] [] h (mJ6_bitCount_0f7a4_b24 x0) (fun r => r = u) := by
    intro x0
    unfold mJ6_bitCount_0f7a4_b24
    refine j_iload_n (q := 25) hx (dc kJ6_bitCount_0f7a4_0 18 rfl) rfl 0 rfl rfl ?_
    refine j_iload_n (q := 26) hx (dc kJ6_bitCount_0f7a4_0 19 rfl) rfl 0 rfl rfl ?_
    refine j_iconst (q := 27) (v := (4 : Int32)) hx (dc kJ6_bitCount_0f7a4_0 20 rfl) (by decide) rfl ?_
    refine j_iushr (q := 28) hx (dc kJ6_bitCount_0f7a4_0 21 rfl) rfl ?_
    refine j_iadd (q := 29) hx (dc kJ6_bitCount_0f7a4_0 22 rfl) rfl ?_
    refine j_ldc_w (q := 32) hx kc_J6_267 (dc kJ6_bitCount_0f7a4_0 23 rfl) rfl ?_
    refine j_iand (q := 33) hx (dc kJ6_bitCount_0f7a4_0 24 rfl) rfl ?_
    refine j_istore_n (q := 34) (i := 0) (l2 := []) hx (dc kJ6_bitCount_0f7a4_0 25 rfl) rfl (hn 0 (by decide)) [] rfl trivial rfl ?_
    refine j_iload_n (q := 35) hx (dc kJ6_bitCount_0f7a4_0 26 rfl) rfl 0 rfl rfl ?_
    refine j_iload_n (q := 36) hx (dc kJ6_bitCount_0f7a4_0 27 rfl) rfl 0 rfl rfl ?_
    refine j_bipush (q := 38) (v := (8 : Int32)) hx (dc kJ6_bitCount_0f7a4_0 28 rfl) (by decide) rfl ?_
    refine j_iushr (q := 39) hx (dc kJ6_bitCount_0f7a4_0 29 rfl) rfl ?_
    refine j_iadd (q := 40) hx (dc kJ6_bitCount_0f7a4_0 30 rfl) rfl ?_
    refine j_istore_n (q := 41) (i := 0) (l2 := []) hx (dc kJ6_bitCount_0f7a4_0 31 rfl) rfl (hn 0 (by decide)) [] rfl trivial rfl ?_
    exact hb41 (((x0 + (ushrI x0 (4 : Int32))) &&& (252645135 : Int32)) + (ushrI ((x0 + (ushrI x0 (4 : Int32))) &&& (252645135 : Int32)) (8 : Int32)))
  unfold mJ6_bitCount_0f7a4
  refine j_iload_n (q := 1) hx (dc kJ6_bitCount_0f7a4_0 0 rfl) rfl 0 rfl rfl ?_
  refine j_iload_n (q := 2) hx (dc kJ6_bitCount_0f7a4_0 1 rfl) rfl 0 rfl rfl ?_
  refine j_iconst (q := 3) (v := (1 : Int32)) hx (dc kJ6_bitCount_0f7a4_0 2 rfl) (by decide) rfl ?_
  refine j_iushr (q := 4) hx (dc kJ6_bitCount_0f7a4_0 3 rfl) rfl ?_
  refine j_ldc_w (q := 7) hx kc_J6_265 (dc kJ6_bitCount_0f7a4_0 4 rfl) rfl ?_
  refine j_iand (q := 8) hx (dc kJ6_bitCount_0f7a4_0 5 rfl) rfl ?_
  refine j_isub (q := 9) hx (dc kJ6_bitCount_0f7a4_0 6 rfl) rfl ?_
  refine j_istore_n (q := 10) (i := 0) (l2 := []) hx (dc kJ6_bitCount_0f7a4_0 7 rfl) rfl (hn 0 (by decide)) [] rfl trivial rfl ?_
  refine j_iload_n (q := 11) hx (dc kJ6_bitCount_0f7a4_0 8 rfl) rfl 0 rfl rfl ?_
  refine j_ldc_w (q := 14) hx kc_J6_266 (dc kJ6_bitCount_0f7a4_0 9 rfl) rfl ?_
  refine j_iand (q := 15) hx (dc kJ6_bitCount_0f7a4_0 10 rfl) rfl ?_
  refine j_iload_n (q := 16) hx (dc kJ6_bitCount_0f7a4_0 11 rfl) rfl 0 rfl rfl ?_
  refine j_iconst (q := 17) (v := (2 : Int32)) hx (dc kJ6_bitCount_0f7a4_0 12 rfl) (by decide) rfl ?_
  refine j_iushr (q := 18) hx (dc kJ6_bitCount_0f7a4_0 13 rfl) rfl ?_
  refine j_ldc_w (q := 21) hx kc_J6_266 (dc kJ6_bitCount_0f7a4_0 14 rfl) rfl ?_
  refine j_iand (q := 22) hx (dc kJ6_bitCount_0f7a4_0 15 rfl) rfl ?_
  refine j_iadd (q := 23) hx (dc kJ6_bitCount_0f7a4_0 16 rfl) rfl ?_
  refine j_istore_n (q := 24) (i := 0) (l2 := []) hx (dc kJ6_bitCount_0f7a4_0 17 rfl) rfl (hn 0 (by decide)) [] rfl trivial rfl ?_
  exact hb24 (((x0 - ((ushrI x0 (1 : Int32)) &&& (1431655765 : Int32))) &&& (858993459 : Int32)) + ((ushrI (x0 - ((ushrI x0 (1 : Int32)) &&& (1431655765 : Int32))) (2 : Int32)) &&& (858993459 : Int32)))

set_option maxHeartbeats 4000000 in
set_option maxRecDepth 100000 in
theorem sX3_nextFacts (l : Launch) (w : Wd) (x0 : Nat) (h : Hp) (u : (Int32 × Hp)) (hK : mX3_nextFacts x0 h = some u) : M1 l w mi_X3_nextFacts 2 [vR w x0] h u.2 (some (.int u.1)) := by
  refine M1.of (own := RX3) (T := fun _ r => r = u) hK (by decide +kernel) rfl (by first | (simp only [lg_lenR, lg_lenI, lg_lenL, lg_len0]; decide) | decide) (fun x hx hnl hhf hl hw hret hnm hQ h0e => ⟨?_, rfl⟩)
  subst hw
  subst hl
  have hR : Rt x h u.2 (some (.int u.1)) ((some .boolean)) := ⟨h0e, hhf, hret, hQ⟩
  have hn : ∀ i, i < 2 → i < x.2.2.1.1.1 := fun i hi => by rw [hnl]; exact hi
  have e0 : lv_args 0 [vR x.2.2.2 x0] = [(0, vR x.2.2.2 x0)] := by simp only [lv_argsR, lv_argsI, lv_argsL, lv_args0]
  rw [e0]
  have hb2 : ∀ (x0 : Nat) (x1 : Int32) (h : Hp), J x 2 [(0, vR x.2.2.2 x0), (1, .int x1)] [] h (mX3_nextFacts_l2 x0 x1 h) (fun r => r = u) := by
    intro x0 x1 h
    have hB : ∀ (x1 : Int32) (h : Hp), J x 2 [(0, vR x.2.2.2 x0), (1, .int x1)] [] h (mX3_nextFacts_l2f x0 x1 h) (TLo (S := (Int32 × Hp)) x 2 (fun s => [(0, vR x.2.2.2 x0), (1, .int s.1)]) [] (fun s => s.2) (fun r => r = u)) := by
      intro x1 h
      have hb44 : ∀ (x0 : Nat) (x1 : Int32) (h : Hp), J x 44 [(0, vR x.2.2.2 x0), (1, .int x1)] [] h (mX3_nextFacts_b44 x0 x1 h) (TLo (S := (Int32 × Hp)) x 2 (fun s => [(0, vR x.2.2.2 x0), (1, .int s.1)]) [] (fun s => s.2) (fun r => r = u)) := by
        intro x0 x1 h
        unfold mX3_nextFacts_b44
        refine j_aload_n (q := 45) hx (dc kX3_nextFacts_0 24 rfl) rfl 0 rfl rfl ?_
        refine w_gI (q := 48) hx (dc kX3_nextFacts_0 25 rfl) ff_X3_1 lk_X3_15 rfl (fun v6 => ?_)
        refine j_aload_n (q := 49) hx (dc kX3_nextFacts_0 26 rfl) rfl 0 rfl rfl ?_
        refine w_gI (q := 52) hx (dc kX3_nextFacts_0 27 rfl) ff_X3_0 lk_X3_9 rfl (fun v7 => ?_)
        refine w_cSIR (q := 55) (As := [.int v7]) (st := [.int v6]) hx (dc kX3_nextFacts_0 28 rfl) (cI _ my_J6_bitCount_0f7a4 lm_X3_32 (by decide)) st_J6_bitCount_0f7a4 rfl (fun u hu => sJ6_bitCount_0f7a4 _ _ _ _ _ hu) (sum_le (sum_I sum_nil) (by decide)) rfl (fun v8 => ?_)
        refine j_icmp_leS (q := 58) (tgt := 60) hx (dc kX3_nextFacts_0 29 rfl) (by decide) rfl ?_ ?_
        · refine j_aload_n (q := 61) hx (dc kX3_nextFacts_0 32 rfl) rfl 0 rfl rfl ?_
          refine w_gI (q := 64) hx (dc kX3_nextFacts_0 33 rfl) ff_X3_2 lk_X3_18 rfl (fun v10 => ?_)
          refine w_cSIR (q := 67) (As := [.int v10]) (st := []) hx (dc kX3_nextFacts_0 34 rfl) (cI _ my_J6_bitCount_0f7a4 lm_X3_32 (by decide)) st_J6_bitCount_0f7a4 rfl (fun u hu => sJ6_bitCount_0f7a4 _ _ _ _ _ hu) (Nat.zero_le _) rfl (fun v11 => ?_)
          refine j_aload_n (q := 68) hx (dc kX3_nextFacts_0 35 rfl) rfl 0 rfl rfl ?_
          refine w_gI (q := 71) hx (dc kX3_nextFacts_0 36 rfl) ff_X3_1 lk_X3_15 rfl (fun v13 => ?_)
          refine j_icmp_neS (q := 74) (tgt := 76) hx (dc kX3_nextFacts_0 37 rfl) (by decide) rfl ?_ ?_
          · refine j_iinc (q := 79) (l2 := [(0, vR x.2.2.2 x0)]) hx (dc kX3_nextFacts_0 40 rfl) 1 rfl (v := (1 : Int32)) (by decide) (hn 1 (by decide)) [0] rfl ⟨⟨show (0 : Nat) ≠ 1 by decide, Or.inr (vR_cat _ _)⟩, trivial⟩ rfl ?_
            refine j_goto (q := 2) hx (dc kX3_nextFacts_0 41 rfl) (by decide) ?_
            exact j_back [1, 0] ((x1 + (1 : Int32)), h) rfl rfl
          · refine j_exit ?_
            refine j_iconst (q := 75) (v := (1 : Int32)) hx (dc kX3_nextFacts_0 38 rfl) (by decide) rfl ?_
            exact r_cW hx (Or.inr rfl) hR (dc kX3_nextFacts_0 39 rfl)
        · refine j_exit ?_
          refine j_iconst (q := 59) (v := (0 : Int32)) hx (dc kX3_nextFacts_0 30 rfl) (by decide) rfl ?_
          exact r_cW hx (Or.inl rfl) hR (dc kX3_nextFacts_0 31 rfl)
      unfold mX3_nextFacts_l2f
      refine j_iload_n (q := 3) hx (dc kX3_nextFacts_0 2 rfl) rfl 1 rfl rfl ?_
      refine j_sipush (q := 6) (v := (2304 : Int32)) hx (dc kX3_nextFacts_0 3 rfl) (by decide) rfl ?_
      refine j_icmp_geS (q := 9) (tgt := 82) hx (dc kX3_nextFacts_0 4 rfl) (by decide) rfl ?_ ?_
      · refine j_exit ?_
        refine j_iconst (q := 83) (v := (0 : Int32)) hx (dc kX3_nextFacts_0 42 rfl) (by decide) rfl ?_
        exact r_cW hx (Or.inl rfl) hR (dc kX3_nextFacts_0 43 rfl)
      · refine j_aload_n (q := 10) hx (dc kX3_nextFacts_0 5 rfl) rfl 0 rfl rfl ?_
        refine j_aload_n (q := 11) hx (dc kX3_nextFacts_0 6 rfl) rfl 0 rfl rfl ?_
        refine w_gI (q := 14) hx (dc kX3_nextFacts_0 7 rfl) ff_X3_2 lk_X3_18 rfl (fun v1 => ?_)
        refine j_aload_n (q := 15) hx (dc kX3_nextFacts_0 8 rfl) rfl 0 rfl rfl ?_
        refine w_gI (q := 18) hx (dc kX3_nextFacts_0 9 rfl) ff_X3_0 lk_X3_9 rfl (fun v2 => ?_)
        refine j_isub (q := 19) hx (dc kX3_nextFacts_0 10 rfl) rfl ?_
        refine j_aload_n (q := 20) hx (dc kX3_nextFacts_0 11 rfl) rfl 0 rfl rfl ?_
        refine w_gI (q := 23) hx (dc kX3_nextFacts_0 12 rfl) ff_X3_0 lk_X3_9 rfl (fun v3 => ?_)
        refine j_iand (q := 24) hx (dc kX3_nextFacts_0 13 rfl) rfl ?_
        refine w_sI (q := 27) hx (dc kX3_nextFacts_0 14 rfl) ff_X3_2 rfl lk_X3_18 (Or.inl rfl) rfl (fun h4 => ?_)
        refine j_aload_n (q := 28) hx (dc kX3_nextFacts_0 15 rfl) rfl 0 rfl rfl ?_
        refine w_gI (q := 31) hx (dc kX3_nextFacts_0 16 rfl) ff_X3_2 lk_X3_18 rfl (fun v5 => ?_)
        refine j_if_neS (q := 34) (tgt := 44) hx (dc kX3_nextFacts_0 17 rfl) (by decide) rfl ?_ ?_
        · exact hb44 x0 x1 h4
        · refine j_aload_n (q := 35) hx (dc kX3_nextFacts_0 18 rfl) rfl 0 rfl rfl ?_
          refine j_dup (q := 36) hx (dc kX3_nextFacts_0 19 rfl) (vR_cat _ _) rfl ?_
          refine w_gI (q := 39) hx (dc kX3_nextFacts_0 20 rfl) ff_X3_1 lk_X3_15 rfl (fun v14 => ?_)
          refine j_iconst (q := 40) (v := (1 : Int32)) hx (dc kX3_nextFacts_0 21 rfl) (by decide) rfl ?_
          refine j_iadd (q := 41) hx (dc kX3_nextFacts_0 22 rfl) rfl ?_
          refine w_sI (q := 44) hx (dc kX3_nextFacts_0 23 rfl) ff_X3_1 rfl lk_X3_15 (Or.inl rfl) rfl (fun h15 => ?_)
          exact hb44 x0 x1 h15
    exact j_loop (S := (Int32 × Hp)) (lvf := fun s => [(0, vR x.2.2.2 x0), (1, .int s.1)]) (hpf := fun s => s.2) (f := (fun s : (Int32 × Hp) => mX3_nextFacts_l2f x0 s.1 s.2)) (fun s => hB s.1 s.2) (x1, h)
  unfold mX3_nextFacts
  refine J.ckd fun hck => ?_
  refine j_iconst (q := 1) (v := (0 : Int32)) hx (dc kX3_nextFacts_0 0 rfl) (by decide) rfl ?_
  refine j_istore_n (q := 2) (i := 1) (l2 := [(0, vR x.2.2.2 x0)]) hx (dc kX3_nextFacts_0 1 rfl) rfl (hn 1 (by decide)) [0] rfl ⟨⟨show (0 : Nat) ≠ 1 by decide, Or.inr (vR_cat _ _)⟩, trivial⟩ rfl ?_
  exact j_sub [1, 0] rfl (hb2 x0 (0 : Int32) h)

set_option maxHeartbeats 4000000 in
set_option maxRecDepth 100000 in
theorem sX3_more (l : Launch) (w : Wd) (x0 : Nat) (h : Hp) (u : (Int32 × Hp)) (hK : mX3_more x0 h = some u) : M1 l w mi_X3_more 3 [vR w x0] h u.2 (some (.int u.1)) := by
  refine M1.of (own := RX3) (T := fun _ r => r = u) hK (by decide +kernel) rfl (by first | (simp only [lg_lenR, lg_lenI, lg_lenL, lg_len0]; decide) | decide) (fun x hx hnl hhf hl hw hret hnm hQ h0e => ⟨?_, rfl⟩)
  subst hw
  subst hl
  have hR : Rt x h u.2 (some (.int u.1)) ((some .boolean)) := ⟨h0e, hhf, hret, hQ⟩
  have hn : ∀ i, i < 1 → i < x.2.2.1.1.1 := fun i hi => by rw [hnl]; exact hi
  have e0 : lv_args 0 [vR x.2.2.2 x0] = [(0, vR x.2.2.2 x0)] := by simp only [lv_argsR, lv_argsI, lv_argsL, lv_args0]
  rw [e0]
  unfold mX3_more
  refine J.ckd fun hck => ?_
  refine j_aload_n (q := 1) hx (dc kX3_more_0 0 rfl) rfl 0 rfl rfl ?_
  refine w_gI (q := 4) hx (dc kX3_more_0 1 rfl) ff_X3_4 lk_X3_24 rfl (fun v1 => ?_)
  refine j_if_neS (q := 7) (tgt := 14) hx (dc kX3_more_0 2 rfl) (by decide) rfl ?_ ?_
  · refine j_aload_n (q := 15) hx (dc kX3_more_0 8 rfl) rfl 0 rfl rfl ?_
    refine w_gI (q := 18) hx (dc kX3_more_0 9 rfl) ff_X3_3 lk_X3_21 rfl (fun v2 => ?_)
    refine j_aload_n (q := 19) hx (dc kX3_more_0 10 rfl) rfl 0 rfl rfl ?_
    refine w_gI (q := 22) hx (dc kX3_more_0 11 rfl) ff_X3_2 lk_X3_18 rfl (fun v3 => ?_)
    refine j_icmp_eq (q := 25) (tgt := 45) hx (dc kX3_more_0 12 rfl) (by decide) Iff.rfl rfl ?_ ?_
    · refine j_aload_n (q := 46) hx (dc kX3_more_0 25 rfl) rfl 0 rfl rfl ?_
      refine j_iconst (q := 47) (v := (0 : Int32)) hx (dc kX3_more_0 26 rfl) (by decide) rfl ?_
      refine w_sI (q := 50) hx (dc kX3_more_0 27 rfl) ff_X3_3 rfl lk_X3_21 (Or.inl rfl) rfl (fun h4 => ?_)
      refine j_aload_n (q := 51) hx (dc kX3_more_0 28 rfl) rfl 0 rfl rfl ?_
      refine w_cVIW (q := 54) (As := []) (st := []) hx (dc kX3_more_0 29 rfl) cf3 (by decide) rfl (cI _ my_X3_nextFacts lm_X3_28 (by decide)) vs_X3_nextFacts rfl (fun u hu => sX3_nextFacts _ _ _ _ _ hu) (fun e => ite_ne (by unfold mX3_nextFacts at e; exact e)) (Nat.zero_le _) rfl (fun v5 h6 => ?_)
      exact r_zW hx hR (dc kX3_more_0 30 rfl)
    · refine j_aload_n (q := 26) hx (dc kX3_more_0 13 rfl) rfl 0 rfl rfl ?_
      refine j_aload_n (q := 27) hx (dc kX3_more_0 14 rfl) rfl 0 rfl rfl ?_
      refine w_gI (q := 30) hx (dc kX3_more_0 15 rfl) ff_X3_3 lk_X3_21 rfl (fun v7 => ?_)
      refine j_aload_n (q := 31) hx (dc kX3_more_0 16 rfl) rfl 0 rfl rfl ?_
      refine w_gI (q := 34) hx (dc kX3_more_0 17 rfl) ff_X3_2 lk_X3_18 rfl (fun v8 => ?_)
      refine j_isub (q := 35) hx (dc kX3_more_0 18 rfl) rfl ?_
      refine j_aload_n (q := 36) hx (dc kX3_more_0 19 rfl) rfl 0 rfl rfl ?_
      refine w_gI (q := 39) hx (dc kX3_more_0 20 rfl) ff_X3_2 lk_X3_18 rfl (fun v9 => ?_)
      refine j_iand (q := 40) hx (dc kX3_more_0 21 rfl) rfl ?_
      refine w_sI (q := 43) hx (dc kX3_more_0 22 rfl) ff_X3_3 rfl lk_X3_21 (Or.inl rfl) rfl (fun h10 => ?_)
      refine j_iconst (q := 44) (v := (1 : Int32)) hx (dc kX3_more_0 23 rfl) (by decide) rfl ?_
      exact r_cW hx (Or.inr rfl) hR (dc kX3_more_0 24 rfl)
  · refine j_aload_n (q := 8) hx (dc kX3_more_0 3 rfl) rfl 0 rfl rfl ?_
    refine j_iconst (q := 9) (v := (1 : Int32)) hx (dc kX3_more_0 4 rfl) (by decide) rfl ?_
    refine w_sZ (q := 12) hx (dc kX3_more_0 5 rfl) ff_X3_4 rfl lk_X3_24 (Or.inl rfl) rfl (fun h11 => ?_)
    refine j_iconst (q := 13) (v := (1 : Int32)) hx (dc kX3_more_0 6 rfl) (by decide) rfl ?_
    exact r_cW hx (Or.inr rfl) hR (dc kX3_more_0 7 rfl)

set_option maxHeartbeats 4000000 in
set_option maxRecDepth 100000 in
theorem sX4_init {x0 : Nat} (hvx0 : x0 ≠ 0) (l : Launch) (w : Wd) (h : Hp) (u : Hp) (hK : mX4_init x0 h = some u) : M1 l w mi_X4_init 1 [vR w x0] h u (none) := by
  refine M1.of (own := RX4) (T := fun _ r => r = u) hK (by decide +kernel) rfl (by first | (simp only [lg_lenR, lg_lenI, lg_lenL, lg_len0]; decide) | decide) (fun x hx hnl hhf hl hw hret hnm hQ h0e => ⟨?_, rfl⟩)
  subst hw
  subst hl
  have hR : Rt x h u (none) (none) := ⟨h0e, hhf, hret, hQ⟩
  have hn : ∀ i, i < 1 → i < x.2.2.1.1.1 := fun i hi => by rw [hnl]; exact hi
  have e0 : lv_args 0 [vR x.2.2.2 x0] = [(0, vR x.2.2.2 x0)] := by simp only [lv_argsR, lv_argsI, lv_argsL, lv_args0]
  rw [e0]
  unfold mX4_init
  refine j_aload_n (q := 1) hx (dc kX4_init_0 0 rfl) rfl 0 rfl rfl ?_
  refine j_obj (q := 4) hx (dc kX4_init_0 1 rfl) lo_X4_3 hvx0 (by decide) (Nat.zero_le _) rfl ?_
  refine j_aload_n (q := 5) hx (dc kX4_init_0 2 rfl) rfl 0 rfl rfl ?_
  refine j_bipush (q := 7) (v := (64 : Int32)) hx (dc kX4_init_0 3 rfl) (by decide) rfl ?_
  refine j_newarray51 (q := 9) hx (dc kX4_init_0 4 rfl) ac_J (by decide) (by decide) (by decide) rfl (fun v2 hvv2 h1 => ?_)
  refine w_sR (q := 12) hx (dc kX4_init_0 5 rfl) ff_X4_0 lk_X4_11 (Or.inr ⟨hnm, rfl, rfl, lt_X4_11⟩) rfl (fun h3 => ?_)
  refine j_aload_n (q := 13) hx (dc kX4_init_0 6 rfl) rfl 0 rfl rfl ?_
  refine j_bipush (q := 15) (v := (64 : Int32)) hx (dc kX4_init_0 7 rfl) (by decide) rfl ?_
  refine j_newarray51 (q := 17) hx (dc kX4_init_0 8 rfl) ac_J (by decide) (by decide) (by decide) rfl (fun v5 hvv5 h4 => ?_)
  refine w_sR (q := 20) hx (dc kX4_init_0 9 rfl) ff_X4_1 lk_X4_15 (Or.inr ⟨hnm, rfl, rfl, lt_X4_15⟩) rfl (fun h6 => ?_)
  refine j_aload_n (q := 21) hx (dc kX4_init_0 10 rfl) rfl 0 rfl rfl ?_
  refine j_bipush (q := 23) (v := (7 : Int32)) hx (dc kX4_init_0 11 rfl) (by decide) rfl ?_
  refine j_newarray51 (q := 25) hx (dc kX4_init_0 12 rfl) ac_J (by decide) (by decide) (by decide) rfl (fun v8 hvv8 h7 => ?_)
  refine w_sR (q := 28) hx (dc kX4_init_0 13 rfl) ff_X4_2 lk_X4_18 (Or.inr ⟨hnm, rfl, rfl, lt_X4_18⟩) rfl (fun h9 => ?_)
  exact r_vW hx hR (dc kX4_init_0 14 rfl)

set_option maxHeartbeats 4000000 in
set_option maxRecDepth 100000 in
theorem sX4_glance (l : Launch) (w : Wd) (x0 : Nat) (x1 : Nat) (x2 : Int32) (x3 : Int32) (x4 : Int32) (h : Hp) (u : (Int32 × Hp)) (hK : mX4_glance x0 x1 x2 x3 x4 h = some u) : M1 l w mi_X4_glance 4 [vR w x0, vR w x1, .int x2, .int x3, .int x4] h u.2 (some (.int u.1)) := by
  refine M1.of (own := RX4) (T := fun _ r => r = u) hK (by decide +kernel) rfl (by first | (simp only [lg_lenR, lg_lenI, lg_lenL, lg_len0]; decide) | decide) (fun x hx hnl hhf hl hw hret hnm hQ h0e => ⟨?_, rfl⟩)
  subst hw
  subst hl
  have hR : Rt x h u.2 (some (.int u.1)) ((some .int)) := ⟨h0e, hhf, hret, hQ⟩
  have hn : ∀ i, i < 5 → i < x.2.2.1.1.1 := fun i hi => by rw [hnl]; exact hi
  have e0 : lv_args 0 [vR x.2.2.2 x0, vR x.2.2.2 x1, .int x2, .int x3, .int x4] = [(0, vR x.2.2.2 x0), (1, vR x.2.2.2 x1), (2, .int x2), (3, .int x3), (4, .int x4)] := by simp only [lv_argsR, lv_argsI, lv_argsL, lv_args0]
  rw [e0]
  unfold mX4_glance
  refine J.ckd fun hck => ?_
  refine j_aload_n (q := 1) hx (dc kX4_glance_0 0 rfl) rfl 0 rfl rfl ?_
  refine j_iconst (q := 2) (v := (-1 : Int32)) hx (dc kX4_glance_0 1 rfl) (by decide) rfl ?_
  refine w_sI (q := 5) hx (dc kX4_glance_0 2 rfl) ff_X4_4 rfl lk_X4_21 (Or.inl rfl) rfl (fun h1 => ?_)
  refine j_aload_n (q := 6) hx (dc kX4_glance_0 3 rfl) rfl 0 rfl rfl ?_
  refine j_iload_n (q := 7) hx (dc kX4_glance_0 4 rfl) rfl 3 rfl rfl ?_
  refine w_sI (q := 10) hx (dc kX4_glance_0 5 rfl) ff_X4_5 rfl lk_X4_42 (Or.inl rfl) rfl (fun h2 => ?_)
  refine j_aload_n (q := 11) hx (dc kX4_glance_0 6 rfl) rfl 0 rfl rfl ?_
  refine j_iload (q := 13) hx (dc kX4_glance_0 7 rfl) 4 rfl rfl ?_
  refine w_sI (q := 16) hx (dc kX4_glance_0 8 rfl) ff_X4_6 rfl lk_X4_45 (Or.inl rfl) rfl (fun h3 => ?_)
  refine j_aload_n (q := 17) hx (dc kX4_glance_0 9 rfl) rfl 0 rfl rfl ?_
  refine j_aload_n (q := 18) hx (dc kX4_glance_0 10 rfl) rfl 1 rfl rfl ?_
  refine w_gR (q := 21) hx (dc kX4_glance_0 11 rfl) ff_X1_12 lk_X4_48 rfl (fun v4 => ?_)
  refine j_aload_n (q := 22) hx (dc kX4_glance_0 12 rfl) rfl 1 rfl rfl ?_
  refine w_gR (q := 25) hx (dc kX4_glance_0 13 rfl) ff_X1_14 lk_X4_54 rfl (fun v5 => ?_)
  refine j_iload_n (q := 26) hx (dc kX4_glance_0 14 rfl) rfl 2 rfl rfl ?_
  refine w_cSIR (q := 29) (As := [vR x.2.2.2 v5, .int x2]) (st := [vR x.2.2.2 v4, vR x.2.2.2 x0]) hx (dc kX4_glance_0 15 rfl) (cI _ my_X11_at lm_X4_57 (by decide)) st_X11_at rfl (fun u hu => sX11_at _ _ _ _ _ _ hu) (sum_le (sum_R (sum_R sum_nil)) (by decide)) rfl (fun v6 => ?_)
  refine j_aload_n (q := 30) hx (dc kX4_glance_0 16 rfl) rfl 1 rfl rfl ?_
  refine w_gR (q := 33) hx (dc kX4_glance_0 17 rfl) ff_X1_15 lk_X4_61 rfl (fun v8 => ?_)
  refine j_iload_n (q := 34) hx (dc kX4_glance_0 18 rfl) rfl 2 rfl rfl ?_
  refine w_cSIR (q := 37) (As := [vR x.2.2.2 v8, .int x2]) (st := [.int v6, vR x.2.2.2 v4, vR x.2.2.2 x0]) hx (dc kX4_glance_0 19 rfl) (cI _ my_X11_at lm_X4_57 (by decide)) st_X11_at rfl (fun u hu => sX11_at _ _ _ _ _ _ hu) (sum_le (sum_I (sum_R (sum_R sum_nil))) (by decide)) rfl (fun v9 => ?_)
  refine w_cVVW (q := 40) (As := [vR x.2.2.2 v4, .int v6, .int v9]) (st := []) hx (dc kX4_glance_0 20 rfl) cf4 (by decide) rfl (cI _ my_X4_run lm_X4_25 (by decide)) vs_X4_run rfl (fun u hu => sX4_run _ _ _ _ _ _ _ _ hu) (fun e => ite_ne (by unfold mX4_run at e; exact e)) (Nat.zero_le _) rfl (fun h12 => ?_)
  refine j_aload_n (q := 41) hx (dc kX4_glance_0 21 rfl) rfl 0 rfl rfl ?_
  refine w_gR (q := 44) hx (dc kX4_glance_0 22 rfl) ff_X4_0 lk_X4_11 rfl (fun v13 => ?_)
  refine j_iconst (q := 45) (v := (0 : Int32)) hx (dc kX4_glance_0 23 rfl) (by decide) rfl ?_
  refine w_cSJR (q := 48) (As := [vR x.2.2.2 v13, .int (0 : Int32)]) (st := []) hx (dc kX4_glance_0 24 rfl) (cI _ my_X11_longAt lm_X4_34 (by decide)) st_X11_longAt rfl (fun u hu => sX11_longAt _ _ _ _ _ _ hu) (Nat.zero_le _) rfl (fun v14 => ?_)
  refine j_lconst (q := 49) (v := (0 : Int64)) hx (dc kX4_glance_0 25 rfl) (by decide) rfl ?_
  refine j_lcmp (q := 50) hx (dc kX4_glance_0 26 rfl) rfl ?_
  refine j_if_eq (q := 53) (tgt := 55) hx (dc kX4_glance_0 27 rfl) (by decide) Iff.rfl rfl ?_ ?_
  · refine j_aload_n (q := 56) hx (dc kX4_glance_0 30 rfl) rfl 0 rfl rfl ?_
    refine w_gR (q := 59) hx (dc kX4_glance_0 31 rfl) ff_X4_1 lk_X4_15 rfl (fun v16 => ?_)
    refine j_iconst (q := 60) (v := (0 : Int32)) hx (dc kX4_glance_0 32 rfl) (by decide) rfl ?_
    refine w_cSJR (q := 63) (As := [vR x.2.2.2 v16, .int (0 : Int32)]) (st := []) hx (dc kX4_glance_0 33 rfl) (cI _ my_X11_longAt lm_X4_34 (by decide)) st_X11_longAt rfl (fun u hu => sX11_longAt _ _ _ _ _ _ hu) (Nat.zero_le _) rfl (fun v17 => ?_)
    refine j_lconst (q := 64) (v := (0 : Int64)) hx (dc kX4_glance_0 34 rfl) (by decide) rfl ?_
    refine j_lcmp (q := 65) hx (dc kX4_glance_0 35 rfl) rfl ?_
    refine j_if_eq (q := 68) (tgt := 72) hx (dc kX4_glance_0 36 rfl) (by decide) Iff.rfl rfl ?_ ?_
    · refine j_iconst (q := 73) (v := (2 : Int32)) hx (dc kX4_glance_0 39 rfl) (by decide) rfl ?_
      exact r_iW hx hR (dc kX4_glance_0 40 rfl)
    · refine j_iconst (q := 69) (v := (0 : Int32)) hx (dc kX4_glance_0 37 rfl) (by decide) rfl ?_
      refine j_goto (q := 73) hx (dc kX4_glance_0 38 rfl) (by decide) ?_
      exact r_iW hx hR (dc kX4_glance_0 40 rfl)
  · refine j_iconst (q := 54) (v := (1 : Int32)) hx (dc kX4_glance_0 28 rfl) (by decide) rfl ?_
    exact r_iW hx hR (dc kX4_glance_0 29 rfl)

set_option maxHeartbeats 4000000 in
set_option maxRecDepth 100000 in
theorem sX5_known (l : Launch) (w : Wd) (x0 : Nat) (h : Hp) (u : Int32) (hK : mX5_known x0 h = some u) : M1 l w mi_X5_known 1 [vR w x0] h h (some (.int u)) := by
  refine M1.of (own := RX5) (T := fun _ r => r = u) hK (by decide +kernel) rfl (by first | (simp only [lg_lenR, lg_lenI, lg_lenL, lg_len0]; decide) | decide) (fun x hx hnl hhf hl hw hret hnm hQ h0e => ⟨?_, rfl⟩)
  subst hw
  subst hl
  have hR : Rt x h h (some (.int u)) ((some .int)) := ⟨h0e, hhf, hret, hQ⟩
  have hn : ∀ i, i < 1 → i < x.2.2.1.1.1 := fun i hi => by rw [hnl]; exact hi
  have e0 : lv_args 0 [vR x.2.2.2 x0] = [(0, vR x.2.2.2 x0)] := by simp only [lv_argsR, lv_argsI, lv_argsL, lv_args0]
  rw [e0]
  unfold mX5_known
  refine J.ckd fun hck => ?_
  refine j_aload_n (q := 1) hx (dc kX5_known_0 0 rfl) rfl 0 rfl rfl ?_
  refine w_gI (q := 4) hx (dc kX5_known_0 1 rfl) ff_X5_4 lk_X5_44 rfl (fun v1 => ?_)
  refine j_aload_n (q := 5) hx (dc kX5_known_0 2 rfl) rfl 0 rfl rfl ?_
  refine w_gI (q := 8) hx (dc kX5_known_0 3 rfl) ff_X5_7 lk_X5_53 rfl (fun v2 => ?_)
  refine j_ior (q := 9) hx (dc kX5_known_0 4 rfl) rfl ?_
  exact r_iR hx hR (dc kX5_known_0 5 rfl)

set_option maxHeartbeats 4000000 in
set_option maxRecDepth 100000 in
theorem sX5_answered (l : Launch) (w : Wd) (x0 : Nat) (h : Hp) (u : Int32) (hK : mX5_answered x0 h = some u) : M1 l w mi_X5_answered 2 [vR w x0] h h (some (.int u)) := by
  refine M1.of (own := RX5) (T := fun _ r => r = u) hK (by decide +kernel) rfl (by first | (simp only [lg_lenR, lg_lenI, lg_lenL, lg_len0]; decide) | decide) (fun x hx hnl hhf hl hw hret hnm hQ h0e => ⟨?_, rfl⟩)
  subst hw
  subst hl
  have hR : Rt x h h (some (.int u)) ((some .int)) := ⟨h0e, hhf, hret, hQ⟩
  have hn : ∀ i, i < 1 → i < x.2.2.1.1.1 := fun i hi => by rw [hnl]; exact hi
  have e0 : lv_args 0 [vR x.2.2.2 x0] = [(0, vR x.2.2.2 x0)] := by simp only [lv_argsR, lv_argsI, lv_argsL, lv_args0]
  rw [e0]
  unfold mX5_answered
  refine J.ckd fun hck => ?_
  refine j_aload_n (q := 1) hx (dc kX5_answered_0 0 rfl) rfl 0 rfl rfl ?_
  refine w_gI (q := 4) hx (dc kX5_answered_0 1 rfl) ff_X5_4 lk_X5_44 rfl (fun v1 => ?_)
  refine j_aload_n (q := 5) hx (dc kX5_answered_0 2 rfl) rfl 0 rfl rfl ?_
  refine w_gI (q := 8) hx (dc kX5_answered_0 3 rfl) ff_X5_5 lk_X5_47 rfl (fun v2 => ?_)
  refine j_ior (q := 9) hx (dc kX5_answered_0 4 rfl) rfl ?_
  refine j_aload_n (q := 10) hx (dc kX5_answered_0 5 rfl) rfl 0 rfl rfl ?_
  refine w_gI (q := 13) hx (dc kX5_answered_0 6 rfl) ff_X5_6 lk_X5_50 rfl (fun v3 => ?_)
  refine j_ior (q := 14) hx (dc kX5_answered_0 7 rfl) rfl ?_
  refine j_aload_n (q := 15) hx (dc kX5_answered_0 8 rfl) rfl 0 rfl rfl ?_
  refine w_gI (q := 18) hx (dc kX5_answered_0 9 rfl) ff_X5_7 lk_X5_53 rfl (fun v4 => ?_)
  refine j_ior (q := 19) hx (dc kX5_answered_0 10 rfl) rfl ?_
  refine w_cSIR (q := 22) (As := [.int (((v1 ||| v2) ||| v3) ||| v4)]) (st := []) hx (dc kX5_answered_0 11 rfl) (cI _ my_J6_bitCount_0f7a4 lm_X5_63 (by decide)) st_J6_bitCount_0f7a4 rfl (fun u hu => sJ6_bitCount_0f7a4 _ _ _ _ _ hu) (Nat.zero_le _) rfl (fun v5 => ?_)
  exact r_iR hx hR (dc kX5_answered_0 12 rfl)

set_option maxHeartbeats 4000000 in
set_option maxRecDepth 100000 in
theorem sX5_howIs (l : Launch) (w : Wd) (x0 : Nat) (x1 : Int32) (h : Hp) (u : Int32) (hK : mX5_howIs x0 x1 h = some u) : M1 l w mi_X5_howIs 2 [vR w x0, .int x1] h h (some (.int u)) := by
  refine M1.of (own := RX5) (T := fun _ r => r = u) hK (by decide +kernel) rfl (by first | (simp only [lg_lenR, lg_lenI, lg_lenL, lg_len0]; decide) | decide) (fun x hx hnl hhf hl hw hret hnm hQ h0e => ⟨?_, rfl⟩)
  subst hw
  subst hl
  have hR : Rt x h h (some (.int u)) ((some .int)) := ⟨h0e, hhf, hret, hQ⟩
  have hn : ∀ i, i < 2 → i < x.2.2.1.1.1 := fun i hi => by rw [hnl]; exact hi
  have e0 : lv_args 0 [vR x.2.2.2 x0, .int x1] = [(0, vR x.2.2.2 x0), (1, .int x1)] := by simp only [lv_argsR, lv_argsI, lv_argsL, lv_args0]
  rw [e0]
  unfold mX5_howIs
  refine J.ckd fun hck => ?_
  refine j_aload_n (q := 1) hx (dc kX5_howIs_0 0 rfl) rfl 0 rfl rfl ?_
  refine w_gI (q := 4) hx (dc kX5_howIs_0 1 rfl) ff_X5_4 lk_X5_44 rfl (fun v1 => ?_)
  refine j_iload_n (q := 5) hx (dc kX5_howIs_0 2 rfl) rfl 1 rfl rfl ?_
  refine w_cSIR (q := 8) (As := [.int v1, .int x1]) (st := []) hx (dc kX5_howIs_0 3 rfl) (cI _ my_X11_has lm_X5_69 (by decide)) st_X11_has rfl (fun u hu => sX11_has _ _ _ _ _ _ hu) (Nat.zero_le _) rfl (fun v2 => ?_)
  refine j_if_eq (q := 11) (tgt := 13) hx (dc kX5_howIs_0 4 rfl) (by decide) Iff.rfl rfl ?_ ?_
  · refine j_aload_n (q := 14) hx (dc kX5_howIs_0 7 rfl) rfl 0 rfl rfl ?_
    refine w_gI (q := 17) hx (dc kX5_howIs_0 8 rfl) ff_X5_5 lk_X5_47 rfl (fun v4 => ?_)
    refine j_iload_n (q := 18) hx (dc kX5_howIs_0 9 rfl) rfl 1 rfl rfl ?_
    refine w_cSIR (q := 21) (As := [.int v4, .int x1]) (st := []) hx (dc kX5_howIs_0 10 rfl) (cI _ my_X11_has lm_X5_69 (by decide)) st_X11_has rfl (fun u hu => sX11_has _ _ _ _ _ _ hu) (Nat.zero_le _) rfl (fun v5 => ?_)
    refine j_if_eq (q := 24) (tgt := 26) hx (dc kX5_howIs_0 11 rfl) (by decide) Iff.rfl rfl ?_ ?_
    · refine j_aload_n (q := 27) hx (dc kX5_howIs_0 14 rfl) rfl 0 rfl rfl ?_
      refine w_gI (q := 30) hx (dc kX5_howIs_0 15 rfl) ff_X5_6 lk_X5_50 rfl (fun v7 => ?_)
      refine j_iload_n (q := 31) hx (dc kX5_howIs_0 16 rfl) rfl 1 rfl rfl ?_
      refine w_cSIR (q := 34) (As := [.int v7, .int x1]) (st := []) hx (dc kX5_howIs_0 17 rfl) (cI _ my_X11_has lm_X5_69 (by decide)) st_X11_has rfl (fun u hu => sX11_has _ _ _ _ _ _ hu) (Nat.zero_le _) rfl (fun v8 => ?_)
      refine j_if_eq (q := 37) (tgt := 39) hx (dc kX5_howIs_0 18 rfl) (by decide) Iff.rfl rfl ?_ ?_
      · refine j_aload_n (q := 40) hx (dc kX5_howIs_0 21 rfl) rfl 0 rfl rfl ?_
        refine w_gI (q := 43) hx (dc kX5_howIs_0 22 rfl) ff_X5_7 lk_X5_53 rfl (fun v10 => ?_)
        refine j_iload_n (q := 44) hx (dc kX5_howIs_0 23 rfl) rfl 1 rfl rfl ?_
        refine w_cSIR (q := 47) (As := [.int v10, .int x1]) (st := []) hx (dc kX5_howIs_0 24 rfl) (cI _ my_X11_has lm_X5_69 (by decide)) st_X11_has rfl (fun u hu => sX11_has _ _ _ _ _ _ hu) (Nat.zero_le _) rfl (fun v11 => ?_)
        refine j_if_eq (q := 50) (tgt := 54) hx (dc kX5_howIs_0 25 rfl) (by decide) Iff.rfl rfl ?_ ?_
        · refine j_iconst (q := 55) (v := (0 : Int32)) hx (dc kX5_howIs_0 28 rfl) (by decide) rfl ?_
          exact r_iR hx hR (dc kX5_howIs_0 29 rfl)
        · refine j_iconst (q := 51) (v := (4 : Int32)) hx (dc kX5_howIs_0 26 rfl) (by decide) rfl ?_
          refine j_goto (q := 55) hx (dc kX5_howIs_0 27 rfl) (by decide) ?_
          exact r_iR hx hR (dc kX5_howIs_0 29 rfl)
      · refine j_iconst (q := 38) (v := (3 : Int32)) hx (dc kX5_howIs_0 19 rfl) (by decide) rfl ?_
        exact r_iR hx hR (dc kX5_howIs_0 20 rfl)
    · refine j_iconst (q := 25) (v := (2 : Int32)) hx (dc kX5_howIs_0 12 rfl) (by decide) rfl ?_
      exact r_iR hx hR (dc kX5_howIs_0 13 rfl)
  · refine j_iconst (q := 12) (v := (1 : Int32)) hx (dc kX5_howIs_0 5 rfl) (by decide) rfl ?_
    exact r_iR hx hR (dc kX5_howIs_0 6 rfl)

set_option maxHeartbeats 4000000 in
set_option maxRecDepth 100000 in
theorem sX5_become (l : Launch) (w : Wd) (x0 : Nat) (x1 : Int32) (x2 : Int32) (x3 : Int32) (h : Hp) (u : Hp) (hK : mX5_become x0 x1 x2 x3 h = some u) : M1 l w mi_X5_become 1 [vR w x0, .int x1, .int x2, .int x3] h u (none) := by
  refine M1.of (own := RX5) (T := fun _ r => r = u) hK (by decide +kernel) rfl (by first | (simp only [lg_lenR, lg_lenI, lg_lenL, lg_len0]; decide) | decide) (fun x hx hnl hhf hl hw hret hnm hQ h0e => ⟨?_, rfl⟩)
  subst hw
  subst hl
  have hR : Rt x h u (none) (none) := ⟨h0e, hhf, hret, hQ⟩
  have hn : ∀ i, i < 6 → i < x.2.2.1.1.1 := fun i hi => by rw [hnl]; exact hi
  have e0 : lv_args 0 [vR x.2.2.2 x0, .int x1, .int x2, .int x3] = [(0, vR x.2.2.2 x0), (1, .int x1), (2, .int x2), (3, .int x3)] := by simp only [lv_argsR, lv_argsI, lv_argsL, lv_args0]
  rw [e0]
  have hb163 : ∀ (t0 : Nat) (t1 : Int32) (h : Hp), J x 163 [] [.int t1, vR x.2.2.2 t0] h (mX5_become_b163 t0 t1 h) (fun r => r = u) := by
    intro t0 t1 h
    unfold mX5_become_b163
    refine w_sI (q := 166) hx (dc kX5_become_1 30 rfl) ff_X5_8 rfl lk_X5_56 (Or.inl rfl) rfl (fun h10 => ?_)
    exact r_vW hx hR (dc kX5_become_1 31 rfl)
  have hb136 : ∀ (x0 : Nat) (x4 : Int32) (t0 : Int32) (h : Hp), J x 136 [(0, vR x.2.2.2 x0), (4, .int x4)] [.int t0] h (mX5_become_b136 x0 x4 t0 h) (fun r => r = u) := by
    intro x0 x4 t0 h
    unfold mX5_become_b136
    refine j_istore (q := 138) (i := 5) (l2 := [(0, vR x.2.2.2 x0), (4, .int x4)]) hx (dc kX5_become_1 15 rfl) (hn 5 (by decide)) [0, 1] rfl ⟨⟨show (0 : Nat) ≠ 5 by decide, Or.inl (show (0 : Nat) + 1 ≠ 5 by decide)⟩, ⟨⟨show (4 : Nat) ≠ 5 by decide, Or.inr rfl⟩, trivial⟩⟩ rfl ?_
    refine j_aload_n (q := 139) hx (dc kX5_become_1 16 rfl) rfl 1 rfl rfl ?_
    refine j_iload (q := 141) hx (dc kX5_become_1 17 rfl) 0 rfl rfl ?_
    refine j_if_eq (q := 144) (tgt := 154) hx (dc kX5_become_1 18 rfl) (by decide) Iff.rfl rfl ?_ ?_
    · refine j_aload_n (q := 155) hx (dc kX5_become_1 24 rfl) rfl 1 rfl rfl ?_
      refine w_gI (q := 158) hx (dc kX5_become_1 25 rfl) ff_X5_8 lk_X5_56 rfl (fun v9 => ?_)
      refine j_iload (q := 160) hx (dc kX5_become_1 26 rfl) 2 rfl rfl ?_
      refine j_iconst (q := 161) (v := (-1 : Int32)) hx (dc kX5_become_1 27 rfl) (by decide) rfl ?_
      refine j_ixor (q := 162) hx (dc kX5_become_1 28 rfl) rfl ?_
      refine j_iand (q := 163) hx (dc kX5_become_1 29 rfl) rfl ?_
      exact j_sub [] rfl (hb163 x0 (v9 &&& (x4 ^^^ (-1 : Int32))) h)
    · refine j_aload_n (q := 145) hx (dc kX5_become_1 19 rfl) rfl 1 rfl rfl ?_
      refine w_gI (q := 148) hx (dc kX5_become_1 20 rfl) ff_X5_8 lk_X5_56 rfl (fun v11 => ?_)
      refine j_iload (q := 150) hx (dc kX5_become_1 21 rfl) 2 rfl rfl ?_
      refine j_ior (q := 151) hx (dc kX5_become_1 22 rfl) rfl ?_
      refine j_goto (q := 163) hx (dc kX5_become_1 23 rfl) (by decide) ?_
      exact j_sub [] rfl (hb163 x0 (v11 ||| x4) h)
  have hb135 : ∀ (x0 : Nat) (x4 : Int32) (h : Hp), J x 135 [(0, vR x.2.2.2 x0), (4, .int x4)] [] h (mX5_become_b135 x0 x4 h) (fun r => r = u) := by
    intro x0 x4 h
    unfold mX5_become_b135
    refine j_iconst (q := 136) (v := (0 : Int32)) hx (dc kX5_become_1 14 rfl) (by decide) rfl ?_
    exact hb136 x0 x4 (0 : Int32) h
  have hb131 : ∀ (x0 : Nat) (x4 : Int32) (h : Hp), J x 131 [(0, vR x.2.2.2 x0), (4, .int x4)] [] h (mX5_become_b131 x0 x4 h) (fun r => r = u) := by
    intro x0 x4 h
    unfold mX5_become_b131
    refine j_iconst (q := 132) (v := (1 : Int32)) hx (dc kX5_become_1 12 rfl) (by decide) rfl ?_
    refine j_goto (q := 136) hx (dc kX5_become_1 13 rfl) (by decide) ?_
    exact hb136 x0 x4 (1 : Int32) h
  have hb114 : ∀ (x0 : Nat) (x2 : Int32) (x3 : Int32) (x4 : Int32) (t0 : Nat) (t1 : Int32) (h : Hp), J x 114 [(0, vR x.2.2.2 x0), (2, .int x2), (3, .int x3), (4, .int x4)] [.int t1, vR x.2.2.2 t0] h (mX5_become_b114 x0 x2 x3 x4 t0 t1 h) (fun r => r = u) := by
    intro x0 x2 x3 x4 t0 t1 h
    unfold mX5_become_b114
    refine w_sI (q := 117) hx (dc kX5_become_1 3 rfl) ff_X5_7 rfl lk_X5_53 (Or.inl rfl) rfl (fun h8 => ?_)
    refine j_iload_n (q := 118) hx (dc kX5_become_1 4 rfl) rfl 2 rfl rfl ?_
    refine j_if_eq (q := 121) (tgt := 135) hx (dc kX5_become_1 5 rfl) (by decide) Iff.rfl rfl ?_ ?_
    · exact j_sub [0, 3] rfl (hb135 x0 x4 h8)
    · refine j_iload_n (q := 122) hx (dc kX5_become_1 6 rfl) rfl 1 rfl rfl ?_
      refine j_iconst (q := 123) (v := (1 : Int32)) hx (dc kX5_become_1 7 rfl) (by decide) rfl ?_
      refine j_icmp_eq (q := 126) (tgt := 131) hx (dc kX5_become_1 8 rfl) (by decide) Iff.rfl rfl ?_ ?_
      · exact j_sub [0, 3] rfl (hb131 x0 x4 h8)
      · refine j_iload_n (q := 127) hx (dc kX5_become_1 9 rfl) rfl 1 rfl rfl ?_
        refine j_iconst (q := 128) (v := (4 : Int32)) hx (dc kX5_become_1 10 rfl) (by decide) rfl ?_
        refine j_icmp_neS (q := 131) (tgt := 135) hx (dc kX5_become_1 11 rfl) (by decide) rfl ?_ ?_
        · exact j_sub [0, 3] rfl (hb135 x0 x4 h8)
        · exact j_sub [0, 3] rfl (hb131 x0 x4 h8)
  have hb86 : ∀ (x0 : Nat) (x2 : Int32) (x3 : Int32) (x4 : Int32) (t0 : Nat) (t1 : Int32) (h : Hp), J x 86 [(0, vR x.2.2.2 x0), (2, .int x2), (3, .int x3), (4, .int x4)] [.int t1, vR x.2.2.2 t0] h (mX5_become_b86 x0 x2 x3 x4 t0 t1 h) (fun r => r = u) := by
    intro x0 x2 x3 x4 t0 t1 h
    unfold mX5_become_b86
    refine w_sI (q := 89) hx (dc kX5_become_0 51 rfl) ff_X5_6 rfl lk_X5_50 (Or.inl rfl) rfl (fun h6 => ?_)
    refine j_aload_n (q := 90) hx (dc kX5_become_0 52 rfl) rfl 0 rfl rfl ?_
    refine j_iload_n (q := 91) hx (dc kX5_become_0 53 rfl) rfl 1 rfl rfl ?_
    refine j_iconst (q := 92) (v := (4 : Int32)) hx (dc kX5_become_0 54 rfl) (by decide) rfl ?_
    refine j_icmp_neS (q := 95) (tgt := 105) hx (dc kX5_become_0 55 rfl) (by decide) rfl ?_ ?_
    · refine j_aload_n (q := 106) hx (dc kX5_become_0 61 rfl) rfl 0 rfl rfl ?_
      refine w_gI (q := 109) hx (dc kX5_become_0 62 rfl) ff_X5_7 lk_X5_53 rfl (fun v7 => ?_)
      refine j_iload (q := 111) hx (dc kX5_become_0 63 rfl) 3 rfl rfl ?_
      refine j_iconst (q := 112) (v := (-1 : Int32)) hx (dc kX5_become_1 0 rfl) (by decide) rfl ?_
      refine j_ixor (q := 113) hx (dc kX5_become_1 1 rfl) rfl ?_
      refine j_iand (q := 114) hx (dc kX5_become_1 2 rfl) rfl ?_
      exact hb114 x0 x2 x3 x4 x0 (v7 &&& (x4 ^^^ (-1 : Int32))) h6
    · refine j_aload_n (q := 96) hx (dc kX5_become_0 56 rfl) rfl 0 rfl rfl ?_
      refine w_gI (q := 99) hx (dc kX5_become_0 57 rfl) ff_X5_7 lk_X5_53 rfl (fun v12 => ?_)
      refine j_iload (q := 101) hx (dc kX5_become_0 58 rfl) 3 rfl rfl ?_
      refine j_ior (q := 102) hx (dc kX5_become_0 59 rfl) rfl ?_
      refine j_goto (q := 114) hx (dc kX5_become_0 60 rfl) (by decide) ?_
      exact hb114 x0 x2 x3 x4 x0 (v12 ||| x4) h6
  have hb58 : ∀ (x0 : Nat) (x2 : Int32) (x3 : Int32) (x4 : Int32) (t0 : Nat) (t1 : Int32) (h : Hp), J x 58 [(0, vR x.2.2.2 x0), (2, .int x2), (3, .int x3), (4, .int x4)] [.int t1, vR x.2.2.2 t0] h (mX5_become_b58 x0 x2 x3 x4 t0 t1 h) (fun r => r = u) := by
    intro x0 x2 x3 x4 t0 t1 h
    unfold mX5_become_b58
    refine w_sI (q := 61) hx (dc kX5_become_0 35 rfl) ff_X5_5 rfl lk_X5_47 (Or.inl rfl) rfl (fun h4 => ?_)
    refine j_aload_n (q := 62) hx (dc kX5_become_0 36 rfl) rfl 0 rfl rfl ?_
    refine j_iload_n (q := 63) hx (dc kX5_become_0 37 rfl) rfl 1 rfl rfl ?_
    refine j_iconst (q := 64) (v := (3 : Int32)) hx (dc kX5_become_0 38 rfl) (by decide) rfl ?_
    refine j_icmp_neS (q := 67) (tgt := 77) hx (dc kX5_become_0 39 rfl) (by decide) rfl ?_ ?_
    · refine j_aload_n (q := 78) hx (dc kX5_become_0 45 rfl) rfl 0 rfl rfl ?_
      refine w_gI (q := 81) hx (dc kX5_become_0 46 rfl) ff_X5_6 lk_X5_50 rfl (fun v5 => ?_)
      refine j_iload (q := 83) hx (dc kX5_become_0 47 rfl) 3 rfl rfl ?_
      refine j_iconst (q := 84) (v := (-1 : Int32)) hx (dc kX5_become_0 48 rfl) (by decide) rfl ?_
      refine j_ixor (q := 85) hx (dc kX5_become_0 49 rfl) rfl ?_
      refine j_iand (q := 86) hx (dc kX5_become_0 50 rfl) rfl ?_
      exact hb86 x0 x2 x3 x4 x0 (v5 &&& (x4 ^^^ (-1 : Int32))) h4
    · refine j_aload_n (q := 68) hx (dc kX5_become_0 40 rfl) rfl 0 rfl rfl ?_
      refine w_gI (q := 71) hx (dc kX5_become_0 41 rfl) ff_X5_6 lk_X5_50 rfl (fun v13 => ?_)
      refine j_iload (q := 73) hx (dc kX5_become_0 42 rfl) 3 rfl rfl ?_
      refine j_ior (q := 74) hx (dc kX5_become_0 43 rfl) rfl ?_
      refine j_goto (q := 86) hx (dc kX5_become_0 44 rfl) (by decide) ?_
      exact hb86 x0 x2 x3 x4 x0 (v13 ||| x4) h4
  have hb30 : ∀ (x0 : Nat) (x2 : Int32) (x3 : Int32) (x4 : Int32) (t0 : Nat) (t1 : Int32) (h : Hp), J x 30 [(0, vR x.2.2.2 x0), (2, .int x2), (3, .int x3), (4, .int x4)] [.int t1, vR x.2.2.2 t0] h (mX5_become_b30 x0 x2 x3 x4 t0 t1 h) (fun r => r = u) := by
    intro x0 x2 x3 x4 t0 t1 h
    unfold mX5_become_b30
    refine w_sI (q := 33) hx (dc kX5_become_0 19 rfl) ff_X5_4 rfl lk_X5_44 (Or.inl rfl) rfl (fun h2 => ?_)
    refine j_aload_n (q := 34) hx (dc kX5_become_0 20 rfl) rfl 0 rfl rfl ?_
    refine j_iload_n (q := 35) hx (dc kX5_become_0 21 rfl) rfl 1 rfl rfl ?_
    refine j_iconst (q := 36) (v := (2 : Int32)) hx (dc kX5_become_0 22 rfl) (by decide) rfl ?_
    refine j_icmp_neS (q := 39) (tgt := 49) hx (dc kX5_become_0 23 rfl) (by decide) rfl ?_ ?_
    · refine j_aload_n (q := 50) hx (dc kX5_become_0 29 rfl) rfl 0 rfl rfl ?_
      refine w_gI (q := 53) hx (dc kX5_become_0 30 rfl) ff_X5_5 lk_X5_47 rfl (fun v3 => ?_)
      refine j_iload (q := 55) hx (dc kX5_become_0 31 rfl) 3 rfl rfl ?_
      refine j_iconst (q := 56) (v := (-1 : Int32)) hx (dc kX5_become_0 32 rfl) (by decide) rfl ?_
      refine j_ixor (q := 57) hx (dc kX5_become_0 33 rfl) rfl ?_
      refine j_iand (q := 58) hx (dc kX5_become_0 34 rfl) rfl ?_
      exact hb58 x0 x2 x3 x4 x0 (v3 &&& (x4 ^^^ (-1 : Int32))) h2
    · refine j_aload_n (q := 40) hx (dc kX5_become_0 24 rfl) rfl 0 rfl rfl ?_
      refine w_gI (q := 43) hx (dc kX5_become_0 25 rfl) ff_X5_5 lk_X5_47 rfl (fun v14 => ?_)
      refine j_iload (q := 45) hx (dc kX5_become_0 26 rfl) 3 rfl rfl ?_
      refine j_ior (q := 46) hx (dc kX5_become_0 27 rfl) rfl ?_
      refine j_goto (q := 58) hx (dc kX5_become_0 28 rfl) (by decide) ?_
      exact hb58 x0 x2 x3 x4 x0 (v14 ||| x4) h2
  unfold mX5_become
  refine J.ckd fun hck => ?_
  refine j_iconst (q := 1) (v := (1 : Int32)) hx (dc kX5_become_0 0 rfl) (by decide) rfl ?_
  refine j_iload_n (q := 2) hx (dc kX5_become_0 1 rfl) rfl 1 rfl rfl ?_
  refine j_ishl (q := 3) hx (dc kX5_become_0 2 rfl) rfl ?_
  refine j_istore (q := 5) (i := 4) (l2 := [(0, vR x.2.2.2 x0), (2, .int x2), (3, .int x3)]) hx (dc kX5_become_0 3 rfl) (hn 4 (by decide)) [0, 2, 3] rfl ⟨⟨show (0 : Nat) ≠ 4 by decide, Or.inl (show (0 : Nat) + 1 ≠ 4 by decide)⟩, ⟨⟨show (2 : Nat) ≠ 4 by decide, Or.inl (show (2 : Nat) + 1 ≠ 4 by decide)⟩, ⟨⟨show (3 : Nat) ≠ 4 by decide, Or.inr rfl⟩, trivial⟩⟩⟩ rfl ?_
  refine j_aload_n (q := 6) hx (dc kX5_become_0 4 rfl) rfl 1 rfl rfl ?_
  refine j_iload_n (q := 7) hx (dc kX5_become_0 5 rfl) rfl 2 rfl rfl ?_
  refine j_iconst (q := 8) (v := (1 : Int32)) hx (dc kX5_become_0 6 rfl) (by decide) rfl ?_
  refine j_icmp_neS (q := 11) (tgt := 21) hx (dc kX5_become_0 7 rfl) (by decide) rfl ?_ ?_
  · refine j_aload_n (q := 22) hx (dc kX5_become_0 13 rfl) rfl 1 rfl rfl ?_
    refine w_gI (q := 25) hx (dc kX5_become_0 14 rfl) ff_X5_4 lk_X5_44 rfl (fun v1 => ?_)
    refine j_iload (q := 27) hx (dc kX5_become_0 15 rfl) 0 rfl rfl ?_
    refine j_iconst (q := 28) (v := (-1 : Int32)) hx (dc kX5_become_0 16 rfl) (by decide) rfl ?_
    refine j_ixor (q := 29) hx (dc kX5_become_0 17 rfl) rfl ?_
    refine j_iand (q := 30) hx (dc kX5_become_0 18 rfl) rfl ?_
    exact j_sub [1, 2, 3, 0] rfl (hb30 x0 x2 x3 ((1 : Int32) <<< (x1 &&& 31)) x0 (v1 &&& (((1 : Int32) <<< (x1 &&& 31)) ^^^ (-1 : Int32))) h)
  · refine j_aload_n (q := 12) hx (dc kX5_become_0 8 rfl) rfl 1 rfl rfl ?_
    refine w_gI (q := 15) hx (dc kX5_become_0 9 rfl) ff_X5_4 lk_X5_44 rfl (fun v15 => ?_)
    refine j_iload (q := 17) hx (dc kX5_become_0 10 rfl) 0 rfl rfl ?_
    refine j_ior (q := 18) hx (dc kX5_become_0 11 rfl) rfl ?_
    refine j_goto (q := 30) hx (dc kX5_become_0 12 rfl) (by decide) ?_
    exact j_sub [1, 2, 3, 0] rfl (hb30 x0 x2 x3 ((1 : Int32) <<< (x1 &&& 31)) x0 (v15 ||| ((1 : Int32) <<< (x1 &&& 31))) h)

