set_option maxHeartbeats 4000000 in
set_option maxRecDepth 100000 in
theorem sX12_readNever (l : Launch) (w : Wd) (x0 : Nat) (h : Hp) (u : Hp) (hK : mX12_readNever x0 h = some u) : M1 l w mi_X12_readNever 52 [vR w x0] h u (none) := by
  refine M1.of (own := RX12) (T := fun _ r => r = u) hK (by decide +kernel) rfl (by first | (simp only [lg_lenR, lg_lenI, lg_lenL, lg_len0]; decide) | decide) (fun x hx hnl hhf hl hw hret hnm hQ h0e => ⟨?_, rfl⟩)
  subst hw
  subst hl
  have hR : Rt x h u (none) (none) := ⟨h0e, hhf, hret, hQ⟩
  have hn : ∀ i, i < 5 → i < x.2.2.1.1.1 := fun i hi => by rw [hnl]; exact hi
  have e0 : lv_args 0 [vR x.2.2.2 x0] = [(0, vR x.2.2.2 x0)] := by simp only [lv_argsR, lv_argsI, lv_argsL, lv_args0]
  rw [e0]
  have hb122 : ∀ (x0 : Nat) (h : Hp), J x 122 [(0, vR x.2.2.2 x0)] [] h (mX12_readNever_b122 x0 h) (fun r => r = u) := by
    intro x0 h
    unfold mX12_readNever_b122
    refine j_aload_n (q := 123) hx (dc kX12_readNever_1 8 rfl) rfl 0 rfl rfl ?_
    refine w_cVVW (q := 126) (As := []) (st := []) hx (dc kX12_readNever_1 9 rfl) cf12 (by decide) rfl (cI _ my_X12_passes lm_X12_169 (by decide)) vs_X12_passes rfl (fun u hu => sX12_passes _ _ _ _ _ hu) (fun e => ite_ne (by unfold mX12_passes at e; exact e)) (Nat.zero_le _) rfl (fun h21 => ?_)
    exact r_vW hx hR (dc kX12_readNever_1 10 rfl)
  have hb108 : ∀ (x0 : Nat) (x1 : Int32) (x3 : Int32) (h : Hp), J x 108 [(0, vR x.2.2.2 x0), (1, .int x1), (3, .int x3)] [] h (mX12_readNever_b108 x0 x1 x3 h) (fun r => r = u) := by
    intro x0 x1 x3 h
    unfold mX12_readNever_b108
    refine j_iload_n (q := 109) hx (dc kX12_readNever_1 0 rfl) rfl 2 rfl rfl ?_
    refine j_if_neS (q := 112) (tgt := 122) hx (dc kX12_readNever_1 1 rfl) (by decide) rfl ?_ ?_
    · exact j_sub [0] rfl (hb122 x0 h)
    · refine j_aload_n (q := 113) hx (dc kX12_readNever_1 2 rfl) rfl 0 rfl rfl ?_
      refine j_iconst (q := 114) (v := (5 : Int32)) hx (dc kX12_readNever_1 3 rfl) (by decide) rfl ?_
      refine w_sI (q := 117) hx (dc kX12_readNever_1 4 rfl) ff_X12_17 rfl lk_X12_126 (Or.inl rfl) rfl (fun h22 => ?_)
      refine j_aload_n (q := 118) hx (dc kX12_readNever_1 5 rfl) rfl 0 rfl rfl ?_
      refine j_iload_n (q := 119) hx (dc kX12_readNever_1 6 rfl) rfl 1 rfl rfl ?_
      refine w_sI (q := 122) hx (dc kX12_readNever_1 7 rfl) ff_X12_18 rfl lk_X12_159 (Or.inl rfl) rfl (fun h23 => ?_)
      exact j_sub [0] rfl (hb122 x0 h23)
  have hb74 : ∀ (x0 : Nat) (x1 : Int32) (x3 : Int32) (x4 : Int32) (h : Hp), J x 74 [(0, vR x.2.2.2 x0), (1, .int x1), (3, .int x3), (4, .int x4)] [] h (mX12_readNever_l74 x0 x1 x3 x4 h) (fun r => r = u) := by
    intro x0 x1 x3 x4 h
    have hB : ∀ (x3 : Int32) (x4 : Int32) (h : Hp), J x 74 [(0, vR x.2.2.2 x0), (1, .int x1), (3, .int x3), (4, .int x4)] [] h (mX12_readNever_l74f x0 x1 x3 x4 h) (TL (S := (Int32 × Int32 × Hp)) x 74 (fun s => [(0, vR x.2.2.2 x0), (1, .int x1), (3, .int s.1), (4, .int s.2.1)]) [] (fun s => s.2.2) (fun r => r = u)) := by
      intro x3 x4 h
      unfold mX12_readNever_l74f
      refine j_iload (q := 76) hx (dc kX12_readNever_0 46 rfl) 3 rfl rfl ?_
      refine j_iconst (q := 77) (v := (1 : Int32)) hx (dc kX12_readNever_0 47 rfl) (by decide) rfl ?_
      refine j_aload_n (q := 78) hx (dc kX12_readNever_0 48 rfl) rfl 0 rfl rfl ?_
      refine w_gR (q := 81) hx (dc kX12_readNever_0 49 rfl) ff_X12_1 lk_X12_13 rfl (fun v18 => ?_)
      refine j_iconst (q := 82) (v := (1 : Int32)) hx (dc kX12_readNever_0 50 rfl) (by decide) rfl ?_
      refine j_ldI (q := 83) hx (dc kX12_readNever_0 51 rfl) rfl (fun v19 => ?_)
      refine j_ishl (q := 84) hx (dc kX12_readNever_0 52 rfl) rfl ?_
      refine j_icmp_geS (q := 87) (tgt := 108) hx (dc kX12_readNever_0 53 rfl) (by decide) rfl ?_ ?_
      · refine j_exit ?_
        exact j_sub [0, 1, 2] rfl (hb108 x0 x1 x3 h)
      · refine j_iload_n (q := 88) hx (dc kX12_readNever_0 54 rfl) rfl 2 rfl rfl ?_
        refine j_if_neS (q := 91) (tgt := 108) hx (dc kX12_readNever_0 55 rfl) (by decide) rfl ?_ ?_
        · refine j_exit ?_
          exact j_sub [0, 1, 2] rfl (hb108 x0 x1 x3 h)
        · refine j_aload_n (q := 92) hx (dc kX12_readNever_0 56 rfl) rfl 0 rfl rfl ?_
          refine j_aload_n (q := 93) hx (dc kX12_readNever_0 57 rfl) rfl 0 rfl rfl ?_
          refine w_gR (q := 96) hx (dc kX12_readNever_0 58 rfl) ff_X12_1 lk_X12_13 rfl (fun v24 => ?_)
          refine j_iload (q := 98) hx (dc kX12_readNever_0 59 rfl) 3 rfl rfl ?_
          refine w_cVIW (q := 101) (As := [vR x.2.2.2 v24, .int x4]) (st := []) hx (dc kX12_readNever_0 60 rfl) cf12 (by decide) rfl (cI _ my_X12_mayBe lm_X12_235 (by decide)) vs_X12_mayBe rfl (fun u hu => sX12_mayBe _ _ _ _ _ _ _ hu) (fun e => ite_ne (by unfold mX12_mayBe at e; exact e)) (Nat.zero_le _) rfl (fun v25 h26 => ?_)
          refine j_istore_n (q := 102) (i := 3) (l2 := [(0, vR x.2.2.2 x0), (1, .int x1), (4, .int x4)]) hx (dc kX12_readNever_0 61 rfl) rfl (hn 3 (by decide)) [0, 1, 3] rfl ⟨⟨show (0 : Nat) ≠ 3 by decide, Or.inl (show (0 : Nat) + 1 ≠ 3 by decide)⟩, ⟨⟨show (1 : Nat) ≠ 3 by decide, Or.inl (show (1 : Nat) + 1 ≠ 3 by decide)⟩, ⟨⟨show (4 : Nat) ≠ 3 by decide, Or.inl (show (4 : Nat) + 1 ≠ 3 by decide)⟩, trivial⟩⟩⟩ rfl ?_
          refine j_iinc (q := 105) (l2 := [(3, .int v25), (0, vR x.2.2.2 x0), (1, .int x1)]) hx (dc kX12_readNever_0 62 rfl) 3 rfl (v := (1 : Int32)) (by decide) (hn 4 (by decide)) [0, 1, 2] rfl ⟨⟨show (3 : Nat) ≠ 4 by decide, Or.inr rfl⟩, ⟨⟨show (0 : Nat) ≠ 4 by decide, Or.inl (show (0 : Nat) + 1 ≠ 4 by decide)⟩, ⟨⟨show (1 : Nat) ≠ 4 by decide, Or.inl (show (1 : Nat) + 1 ≠ 4 by decide)⟩, trivial⟩⟩⟩ rfl ?_
          refine j_goto (q := 74) hx (dc kX12_readNever_0 63 rfl) (by decide) ?_
          exact j_back [2, 3, 1, 0] (v25, (x4 + (1 : Int32)), h26) rfl rfl
    exact j_loop (S := (Int32 × Int32 × Hp)) (lvf := fun s => [(0, vR x.2.2.2 x0), (1, .int x1), (3, .int s.1), (4, .int s.2.1)]) (hpf := fun s => s.2.2) (f := (fun s : (Int32 × Int32 × Hp) => mX12_readNever_l74f x0 x1 s.1 s.2.1 s.2.2)) (fun s => hB s.1 s.2.1 s.2.2) (x3, x4, h)
  have hb36 : ∀ (x0 : Nat) (x1 : Int32) (x2 : Int32) (h : Hp), J x 36 [(0, vR x.2.2.2 x0), (1, .int x1), (2, .int x2)] [] h (mX12_readNever_b36 x0 x1 x2 h) (fun r => r = u) := by
    intro x0 x1 x2 h
    unfold mX12_readNever_b36
    refine j_aload_n (q := 37) hx (dc kX12_readNever_0 20 rfl) rfl 0 rfl rfl ?_
    refine w_gI (q := 40) hx (dc kX12_readNever_0 21 rfl) ff_X12_17 lk_X12_126 rfl (fun v10 => ?_)
    refine j_if_eq (q := 43) (tgt := 44) hx (dc kX12_readNever_0 22 rfl) (by decide) Iff.rfl rfl ?_ ?_
    · refine j_aload_n (q := 45) hx (dc kX12_readNever_0 24 rfl) rfl 0 rfl rfl ?_
      refine w_gR (q := 48) hx (dc kX12_readNever_0 25 rfl) ff_X12_1 lk_X12_13 rfl (fun v11 => ?_)
      refine j_bipush (q := 50) (v := (78 : Int32)) hx (dc kX12_readNever_0 26 rfl) (by decide) rfl ?_
      refine j_aload_n (q := 51) hx (dc kX12_readNever_0 27 rfl) rfl 0 rfl rfl ?_
      refine w_gR (q := 54) hx (dc kX12_readNever_0 28 rfl) ff_X12_1 lk_X12_13 rfl (fun v12 => ?_)
      refine j_iconst (q := 55) (v := (3 : Int32)) hx (dc kX12_readNever_0 29 rfl) (by decide) rfl ?_
      refine j_ldI (q := 56) hx (dc kX12_readNever_0 30 rfl) rfl (fun v13 => ?_)
      refine j_iadd (q := 57) hx (dc kX12_readNever_0 31 rfl) rfl ?_
      refine j_iload_n (q := 58) hx (dc kX12_readNever_0 32 rfl) rfl 2 rfl rfl ?_
      refine w_stI (q := 59) hx (dc kX12_readNever_0 33 rfl) rfl (fun h14 => ?_)
      refine j_aload_n (q := 60) hx (dc kX12_readNever_0 34 rfl) rfl 0 rfl rfl ?_
      refine w_gR (q := 63) hx (dc kX12_readNever_0 35 rfl) ff_X12_1 lk_X12_13 rfl (fun v15 => ?_)
      refine j_iconst (q := 64) (v := (3 : Int32)) hx (dc kX12_readNever_0 36 rfl) (by decide) rfl ?_
      refine j_dup2_11 (q := 65) hx (dc kX12_readNever_0 37 rfl) rfl (vR_cat _ _) rfl ?_
      refine j_ldI (q := 66) hx (dc kX12_readNever_0 38 rfl) rfl (fun v16 => ?_)
      refine j_iconst (q := 67) (v := (1 : Int32)) hx (dc kX12_readNever_0 39 rfl) (by decide) rfl ?_
      refine j_iadd (q := 68) hx (dc kX12_readNever_0 40 rfl) rfl ?_
      refine w_stI (q := 69) hx (dc kX12_readNever_0 41 rfl) rfl (fun h17 => ?_)
      refine j_iconst (q := 70) (v := (0 : Int32)) hx (dc kX12_readNever_0 42 rfl) (by decide) rfl ?_
      refine j_istore_n (q := 71) (i := 3) (l2 := [(0, vR x.2.2.2 x0), (1, .int x1)]) hx (dc kX12_readNever_0 43 rfl) rfl (hn 3 (by decide)) [0, 1] rfl ⟨⟨show (0 : Nat) ≠ 3 by decide, Or.inl (show (0 : Nat) + 1 ≠ 3 by decide)⟩, ⟨⟨show (1 : Nat) ≠ 3 by decide, Or.inl (show (1 : Nat) + 1 ≠ 3 by decide)⟩, trivial⟩⟩ rfl ?_
      refine j_iconst (q := 72) (v := (0 : Int32)) hx (dc kX12_readNever_0 44 rfl) (by decide) rfl ?_
      refine j_istore (q := 74) (i := 4) (l2 := [(3, .int (0 : Int32)), (0, vR x.2.2.2 x0), (1, .int x1)]) hx (dc kX12_readNever_0 45 rfl) (hn 4 (by decide)) [0, 1, 2] rfl ⟨⟨show (3 : Nat) ≠ 4 by decide, Or.inr rfl⟩, ⟨⟨show (0 : Nat) ≠ 4 by decide, Or.inl (show (0 : Nat) + 1 ≠ 4 by decide)⟩, ⟨⟨show (1 : Nat) ≠ 4 by decide, Or.inl (show (1 : Nat) + 1 ≠ 4 by decide)⟩, trivial⟩⟩⟩ rfl ?_
      exact j_sub [2, 3, 1, 0] rfl (hb74 x0 x1 (0 : Int32) (0 : Int32) h17)
    · exact r_vW hx hR (dc kX12_readNever_0 23 rfl)
  unfold mX12_readNever
  refine J.ckd fun hck => ?_
  refine j_aload_n (q := 1) hx (dc kX12_readNever_0 0 rfl) rfl 0 rfl rfl ?_
  refine w_gI (q := 4) hx (dc kX12_readNever_0 1 rfl) ff_X12_13 lk_X12_99 rfl (fun v1 => ?_)
  refine j_istore_n (q := 5) (i := 1) (l2 := [(0, vR x.2.2.2 x0)]) hx (dc kX12_readNever_0 2 rfl) rfl (hn 1 (by decide)) [0] rfl ⟨⟨show (0 : Nat) ≠ 1 by decide, Or.inr (vR_cat _ _)⟩, trivial⟩ rfl ?_
  refine j_aload_n (q := 6) hx (dc kX12_readNever_0 3 rfl) rfl 1 rfl rfl ?_
  refine j_aload_n (q := 7) hx (dc kX12_readNever_0 4 rfl) rfl 1 rfl rfl ?_
  refine w_gR (q := 10) hx (dc kX12_readNever_0 5 rfl) ff_X12_1 lk_X12_13 rfl (fun v2 => ?_)
  refine j_iconst (q := 11) (v := (3 : Int32)) hx (dc kX12_readNever_0 6 rfl) (by decide) rfl ?_
  refine j_ldI (q := 12) hx (dc kX12_readNever_0 7 rfl) rfl (fun v3 => ?_)
  refine j_bipush (q := 14) (v := (6 : Int32)) hx (dc kX12_readNever_0 8 rfl) (by decide) rfl ?_
  refine w_cVVW (q := 17) (As := [.int v3, .int (6 : Int32)]) (st := []) hx (dc kX12_readNever_0 9 rfl) cf12 (by decide) rfl (cI _ my_X12_room lm_X12_226 (by decide)) vs_X12_room rfl (fun u hu => sX12_room _ _ _ _ _ _ _ hu) (fun e => ite_ne (by unfold mX12_room at e; exact e)) (Nat.zero_le _) rfl (fun h5 => ?_)
  refine j_aload_n (q := 18) hx (dc kX12_readNever_0 10 rfl) rfl 1 rfl rfl ?_
  refine w_cVIW (q := 21) (As := []) (st := []) hx (dc kX12_readNever_0 11 rfl) cf12 (by decide) rfl (cI _ my_X12_expr lm_X12_232 (by decide)) vs_X12_expr rfl (fun u hu => sX12_expr _ _ _ _ _ hu) (fun e => ite_ne (by unfold mX12_expr at e; exact e)) (Nat.zero_le _) rfl (fun v6 h7 => ?_)
  refine j_istore_n (q := 22) (i := 2) (l2 := [(1, .int v1), (0, vR x.2.2.2 x0)]) hx (dc kX12_readNever_0 12 rfl) rfl (hn 2 (by decide)) [0, 1] rfl ⟨⟨show (1 : Nat) ≠ 2 by decide, Or.inr rfl⟩, ⟨⟨show (0 : Nat) ≠ 2 by decide, Or.inl (show (0 : Nat) + 1 ≠ 2 by decide)⟩, trivial⟩⟩ rfl ?_
  refine j_aload_n (q := 23) hx (dc kX12_readNever_0 13 rfl) rfl 2 rfl rfl ?_
  refine j_bipush (q := 25) (v := (59 : Int32)) hx (dc kX12_readNever_0 14 rfl) (by decide) rfl ?_
  refine w_cVIR (q := 28) (As := [.int (59 : Int32)]) (st := []) hx (dc kX12_readNever_0 15 rfl) cf12 (by decide) rfl (cI _ my_X12_isSign lm_X12_195 (by decide)) vs_X12_isSign rfl (fun u hu => sX12_isSign _ _ _ _ _ _ hu) (fun e => ite_ne (by unfold mX12_isSign at e; exact e)) (Nat.zero_le _) rfl (fun v8 => ?_)
  refine j_if_neS (q := 31) (tgt := 36) hx (dc kX12_readNever_0 16 rfl) (by decide) rfl ?_ ?_
  · exact j_sub [2, 1, 0] rfl (hb36 x0 v1 v6 h7)
  · refine j_aload_n (q := 32) hx (dc kX12_readNever_0 17 rfl) rfl 2 rfl rfl ?_
    refine j_iconst (q := 33) (v := (1 : Int32)) hx (dc kX12_readNever_0 18 rfl) (by decide) rfl ?_
    refine w_cVVW (q := 36) (As := [.int (1 : Int32)]) (st := []) hx (dc kX12_readNever_0 19 rfl) cf12 (by decide) rfl (cI _ my_X12_wrong lm_X12_165 (by decide)) vs_X12_wrong rfl (fun u hu => sX12_wrong _ _ _ _ _ _ hu) (fun e => ite_ne (by unfold mX12_wrong at e; exact e)) (Nat.zero_le _) rfl (fun h28 => ?_)
    exact j_sub [2, 1, 0] rfl (hb36 x0 v1 v6 h28)

set_option maxHeartbeats 4000000 in
set_option maxRecDepth 100000 in
theorem sX12_readCount (l : Launch) (w : Wd) (x0 : Nat) (h : Hp) (u : Hp) (hK : mX12_readCount x0 h = some u) : M1 l w mi_X12_readCount 52 [vR w x0] h u (none) := by
  refine M1.of (own := RX12) (T := fun _ r => r = u) hK (by decide +kernel) rfl (by first | (simp only [lg_lenR, lg_lenI, lg_lenL, lg_len0]; decide) | decide) (fun x hx hnl hhf hl hw hret hnm hQ h0e => ⟨?_, rfl⟩)
  subst hw
  subst hl
  have hR : Rt x h u (none) (none) := ⟨h0e, hhf, hret, hQ⟩
  have hn : ∀ i, i < 6 → i < x.2.2.1.1.1 := fun i hi => by rw [hnl]; exact hi
  have e0 : lv_args 0 [vR x.2.2.2 x0] = [(0, vR x.2.2.2 x0)] := by simp only [lv_argsR, lv_argsI, lv_argsL, lv_args0]
  rw [e0]
  have hb76 : ∀ (x0 : Nat) (x1 : Int32) (x2 : Int32) (x3 : Int32) (x4 : Int32) (h : Hp), J x 76 [(0, vR x.2.2.2 x0), (1, .int x1), (2, .int x2), (3, .int x3), (4, .int x4)] [] h (mX12_readCount_l76 x0 x1 x2 x3 x4 h) (fun r => r = u) := by
    intro x0 x1 x2 x3 x4 h
    have hB : ∀ (x4 : Int32) (h : Hp), J x 76 [(0, vR x.2.2.2 x0), (1, .int x1), (2, .int x2), (3, .int x3), (4, .int x4)] [] h (mX12_readCount_l76f x0 x1 x2 x3 x4 h) (TL (S := (Int32 × Hp)) x 76 (fun s => [(0, vR x.2.2.2 x0), (1, .int x1), (2, .int x2), (3, .int x3), (4, .int s.1)]) [] (fun s => s.2) (fun r => r = u)) := by
      intro x4 h
      have hb124 : ∀ (x0 : Nat) (x1 : Int32) (x2 : Int32) (x3 : Int32) (x4 : Int32) (h : Hp), J x 124 [(0, vR x.2.2.2 x0), (1, .int x1), (2, .int x2), (3, .int x3), (4, .int x4)] [] h (mX12_readCount_b124 x0 x1 x2 x3 x4 h) (TL (S := (Int32 × Hp)) x 76 (fun s => [(0, vR x.2.2.2 x0), (1, .int x1), (2, .int x2), (3, .int x3), (4, .int s.1)]) [] (fun s => s.2) (fun r => r = u)) := by
        intro x0 x1 x2 x3 x4 h
        unfold mX12_readCount_b124
        refine j_goto (q := 76) hx (dc kX12_readCount_1 5 rfl) (by decide) ?_
        exact j_back [0, 1, 2, 3, 4] (x4, h) rfl rfl
      unfold mX12_readCount_l76f
      refine j_aload_n (q := 77) hx (dc kX12_readCount_0 43 rfl) rfl 0 rfl rfl ?_
      refine j_ldcS (a := 7) (q := 79) hx (show (_, _, "needs", _) ∈ strs0 by decide +kernel) (dc kX12_readCount_0 44 rfl) rfl ?_
      refine w_cVIR (q := 82) (As := [vR x.2.2.2 17]) (st := []) hx (dc kX12_readCount_0 45 rfl) cf12 (by decide) rfl (cI _ my_X12_isWord lm_X12_135 (by decide)) vs_X12_isWord rfl (fun u hu => sX12_isWord _ _ _ _ _ _ hu) (fun e => ite_ne (by unfold mX12_isWord at e; exact e)) (Nat.zero_le _) rfl (fun v21 => ?_)
      refine j_if_eq (q := 85) (tgt := 127) hx (dc kX12_readCount_0 46 rfl) (by decide) Iff.rfl rfl ?_ ?_
      · refine j_exit ?_
        refine j_aload_n (q := 128) hx (dc kX12_readCount_1 6 rfl) rfl 0 rfl rfl ?_
        refine j_aload_n (q := 129) hx (dc kX12_readCount_1 7 rfl) rfl 0 rfl rfl ?_
        refine j_bipush (q := 131) (v := (59 : Int32)) hx (dc kX12_readCount_1 8 rfl) (by decide) rfl ?_
        refine w_cVIR (q := 134) (As := [.int (59 : Int32)]) (st := [vR x.2.2.2 x0]) hx (dc kX12_readCount_1 9 rfl) cf12 (by decide) rfl (cI _ my_X12_isSign lm_X12_195 (by decide)) vs_X12_isSign rfl (fun u hu => sX12_isSign _ _ _ _ _ _ hu) (fun e => ite_ne (by unfold mX12_isSign at e; exact e)) (sum_le (sum_R sum_nil) (by decide)) rfl (fun v23 => ?_)
        refine w_cVVW (q := 137) (As := [.int v23]) (st := []) hx (dc kX12_readCount_1 10 rfl) cf12 (by decide) rfl (cI _ my_X12_must lm_X12_209 (by decide)) vs_X12_must rfl (fun u hu => sX12_must _ _ _ _ _ _ hu) (fun e => ite_ne (by unfold mX12_must at e; exact e)) (Nat.zero_le _) rfl (fun h26 => ?_)
        refine j_aload_n (q := 138) hx (dc kX12_readCount_1 11 rfl) rfl 0 rfl rfl ?_
        refine w_gI (q := 141) hx (dc kX12_readCount_1 12 rfl) ff_X12_17 lk_X12_126 rfl (fun v27 => ?_)
        refine j_if_eq (q := 144) (tgt := 145) hx (dc kX12_readCount_1 13 rfl) (by decide) Iff.rfl rfl ?_ ?_
        · refine j_aload_n (q := 146) hx (dc kX12_readCount_1 15 rfl) rfl 0 rfl rfl ?_
          refine w_gR (q := 149) hx (dc kX12_readCount_1 16 rfl) ff_X12_1 lk_X12_13 rfl (fun v28 => ?_)
          refine j_bipush (q := 151) (v := (16 : Int32)) hx (dc kX12_readCount_1 17 rfl) (by decide) rfl ?_
          refine j_iload_n (q := 152) hx (dc kX12_readCount_1 18 rfl) rfl 1 rfl rfl ?_
          refine j_iadd (q := 153) hx (dc kX12_readCount_1 19 rfl) rfl ?_
          refine j_iload_n (q := 154) hx (dc kX12_readCount_1 20 rfl) rfl 2 rfl rfl ?_
          refine w_stI (q := 155) hx (dc kX12_readCount_1 21 rfl) rfl (fun h29 => ?_)
          refine j_aload_n (q := 156) hx (dc kX12_readCount_1 22 rfl) rfl 0 rfl rfl ?_
          refine w_gR (q := 159) hx (dc kX12_readCount_1 23 rfl) ff_X12_1 lk_X12_13 rfl (fun v30 => ?_)
          refine j_bipush (q := 161) (v := (21 : Int32)) hx (dc kX12_readCount_1 24 rfl) (by decide) rfl ?_
          refine j_iload_n (q := 162) hx (dc kX12_readCount_1 25 rfl) rfl 1 rfl rfl ?_
          refine j_iadd (q := 163) hx (dc kX12_readCount_1 26 rfl) rfl ?_
          refine j_iload_n (q := 164) hx (dc kX12_readCount_1 27 rfl) rfl 3 rfl rfl ?_
          refine w_stI (q := 165) hx (dc kX12_readCount_1 28 rfl) rfl (fun h31 => ?_)
          refine j_aload_n (q := 166) hx (dc kX12_readCount_1 29 rfl) rfl 0 rfl rfl ?_
          refine w_gR (q := 169) hx (dc kX12_readCount_1 30 rfl) ff_X12_1 lk_X12_13 rfl (fun v32 => ?_)
          refine j_bipush (q := 171) (v := (26 : Int32)) hx (dc kX12_readCount_1 31 rfl) (by decide) rfl ?_
          refine j_iload_n (q := 172) hx (dc kX12_readCount_1 32 rfl) rfl 1 rfl rfl ?_
          refine j_iadd (q := 173) hx (dc kX12_readCount_1 33 rfl) rfl ?_
          refine j_iload (q := 175) hx (dc kX12_readCount_1 34 rfl) 4 rfl rfl ?_
          refine w_stI (q := 176) hx (dc kX12_readCount_1 35 rfl) rfl (fun h33 => ?_)
          refine j_aload_n (q := 177) hx (dc kX12_readCount_1 36 rfl) rfl 0 rfl rfl ?_
          refine w_gR (q := 180) hx (dc kX12_readCount_1 37 rfl) ff_X12_1 lk_X12_13 rfl (fun v34 => ?_)
          refine j_iconst (q := 181) (v := (2 : Int32)) hx (dc kX12_readCount_1 38 rfl) (by decide) rfl ?_
          refine j_dup2_11 (q := 182) hx (dc kX12_readCount_1 39 rfl) rfl (vR_cat _ _) rfl ?_
          refine j_ldI (q := 183) hx (dc kX12_readCount_1 40 rfl) rfl (fun v35 => ?_)
          refine j_iconst (q := 184) (v := (1 : Int32)) hx (dc kX12_readCount_1 41 rfl) (by decide) rfl ?_
          refine j_iadd (q := 185) hx (dc kX12_readCount_1 42 rfl) rfl ?_
          refine w_stI (q := 186) hx (dc kX12_readCount_1 43 rfl) rfl (fun h36 => ?_)
          exact r_vW hx hR (dc kX12_readCount_1 44 rfl)
        · exact r_vW hx hR (dc kX12_readCount_1 14 rfl)
      · refine j_aload_n (q := 86) hx (dc kX12_readCount_0 47 rfl) rfl 0 rfl rfl ?_
        refine j_iload (q := 88) hx (dc kX12_readCount_0 48 rfl) 4 rfl rfl ?_
        refine j_iconst (q := 89) (v := (4 : Int32)) hx (dc kX12_readCount_0 49 rfl) (by decide) rfl ?_
        refine w_cVVW (q := 92) (As := [.int x4, .int (4 : Int32)]) (st := []) hx (dc kX12_readCount_0 50 rfl) cf12 (by decide) rfl (cI _ my_X12_room lm_X12_226 (by decide)) vs_X12_room rfl (fun u hu => sX12_room _ _ _ _ _ _ _ hu) (fun e => ite_ne (by unfold mX12_room at e; exact e)) (Nat.zero_le _) rfl (fun h38 => ?_)
        refine j_aload_n (q := 93) hx (dc kX12_readCount_0 51 rfl) rfl 0 rfl rfl ?_
        refine w_cVIW (q := 96) (As := []) (st := []) hx (dc kX12_readCount_0 52 rfl) cf12 (by decide) rfl (cI _ my_X12_expr lm_X12_232 (by decide)) vs_X12_expr rfl (fun u hu => sX12_expr _ _ _ _ _ hu) (fun e => ite_ne (by unfold mX12_expr at e; exact e)) (Nat.zero_le _) rfl (fun v39 h40 => ?_)
        refine j_istore (q := 98) (i := 5) (l2 := [(0, vR x.2.2.2 x0), (1, .int x1), (2, .int x2), (3, .int x3), (4, .int x4)]) hx (dc kX12_readCount_0 53 rfl) (hn 5 (by decide)) [0, 1, 2, 3, 4] rfl ⟨⟨show (0 : Nat) ≠ 5 by decide, Or.inl (show (0 : Nat) + 1 ≠ 5 by decide)⟩, ⟨⟨show (1 : Nat) ≠ 5 by decide, Or.inl (show (1 : Nat) + 1 ≠ 5 by decide)⟩, ⟨⟨show (2 : Nat) ≠ 5 by decide, Or.inl (show (2 : Nat) + 1 ≠ 5 by decide)⟩, ⟨⟨show (3 : Nat) ≠ 5 by decide, Or.inl (show (3 : Nat) + 1 ≠ 5 by decide)⟩, ⟨⟨show (4 : Nat) ≠ 5 by decide, Or.inr rfl⟩, trivial⟩⟩⟩⟩⟩ rfl ?_
        refine j_aload_n (q := 99) hx (dc kX12_readCount_0 54 rfl) rfl 1 rfl rfl ?_
        refine w_gI (q := 102) hx (dc kX12_readCount_0 55 rfl) ff_X12_17 lk_X12_126 rfl (fun v41 => ?_)
        refine j_if_neS (q := 105) (tgt := 124) hx (dc kX12_readCount_0 56 rfl) (by decide) rfl ?_ ?_
        · exact j_sub [1, 2, 3, 4, 5] rfl (hb124 x0 x1 x2 x3 x4 h40)
        · refine j_aload_n (q := 106) hx (dc kX12_readCount_0 57 rfl) rfl 1 rfl rfl ?_
          refine w_gR (q := 109) hx (dc kX12_readCount_0 58 rfl) ff_X12_1 lk_X12_13 rfl (fun v42 => ?_)
          refine j_bipush (q := 111) (v := (31 : Int32)) hx (dc kX12_readCount_0 59 rfl) (by decide) rfl ?_
          refine j_iconst (q := 112) (v := (4 : Int32)) hx (dc kX12_readCount_0 60 rfl) (by decide) rfl ?_
          refine j_iload_n (q := 113) hx (dc kX12_readCount_0 61 rfl) rfl 2 rfl rfl ?_
          refine j_imul (q := 114) hx (dc kX12_readCount_0 62 rfl) rfl ?_
          refine j_iadd (q := 115) hx (dc kX12_readCount_0 63 rfl) rfl ?_
          refine j_iload (q := 117) hx (dc kX12_readCount_1 0 rfl) 5 rfl rfl ?_
          refine j_iadd (q := 118) hx (dc kX12_readCount_1 1 rfl) rfl ?_
          refine j_iload (q := 120) hx (dc kX12_readCount_1 2 rfl) 0 rfl rfl ?_
          refine w_stI (q := 121) hx (dc kX12_readCount_1 3 rfl) rfl (fun h43 => ?_)
          refine j_iinc (q := 124) (l2 := [(0, vR x.2.2.2 x0), (1, .int x1), (2, .int x2), (3, .int x3)]) hx (dc kX12_readCount_1 4 rfl) 5 rfl (v := (1 : Int32)) (by decide) (hn 4 (by decide)) [1, 2, 3, 4] rfl ⟨⟨show (0 : Nat) ≠ 4 by decide, Or.inl (show (0 : Nat) + 1 ≠ 4 by decide)⟩, ⟨⟨show (1 : Nat) ≠ 4 by decide, Or.inl (show (1 : Nat) + 1 ≠ 4 by decide)⟩, ⟨⟨show (2 : Nat) ≠ 4 by decide, Or.inl (show (2 : Nat) + 1 ≠ 4 by decide)⟩, ⟨⟨show (3 : Nat) ≠ 4 by decide, Or.inr rfl⟩, trivial⟩⟩⟩⟩ rfl ?_
          exact j_sub [1, 2, 3, 4, 0] rfl (hb124 x0 x1 x2 x3 (x4 + (1 : Int32)) h43)
    exact j_loop (S := (Int32 × Hp)) (lvf := fun s => [(0, vR x.2.2.2 x0), (1, .int x1), (2, .int x2), (3, .int x3), (4, .int s.1)]) (hpf := fun s => s.2) (f := (fun s : (Int32 × Hp) => mX12_readCount_l76f x0 x1 x2 x3 s.1 s.2)) (fun s => hB s.1 s.2) (x4, h)
  have hb73 : ∀ (x0 : Nat) (x1 : Int32) (x2 : Int32) (x3 : Int32) (h : Hp), J x 73 [(0, vR x.2.2.2 x0), (1, .int x1), (2, .int x2), (3, .int x3)] [] h (mX12_readCount_b73 x0 x1 x2 x3 h) (fun r => r = u) := by
    intro x0 x1 x2 x3 h
    unfold mX12_readCount_b73
    refine j_iconst (q := 74) (v := (0 : Int32)) hx (dc kX12_readCount_0 41 rfl) (by decide) rfl ?_
    refine j_istore (q := 76) (i := 4) (l2 := [(0, vR x.2.2.2 x0), (1, .int x1), (2, .int x2), (3, .int x3)]) hx (dc kX12_readCount_0 42 rfl) (hn 4 (by decide)) [0, 1, 2, 3] rfl ⟨⟨show (0 : Nat) ≠ 4 by decide, Or.inl (show (0 : Nat) + 1 ≠ 4 by decide)⟩, ⟨⟨show (1 : Nat) ≠ 4 by decide, Or.inl (show (1 : Nat) + 1 ≠ 4 by decide)⟩, ⟨⟨show (2 : Nat) ≠ 4 by decide, Or.inl (show (2 : Nat) + 1 ≠ 4 by decide)⟩, ⟨⟨show (3 : Nat) ≠ 4 by decide, Or.inr rfl⟩, trivial⟩⟩⟩⟩ rfl ?_
    exact j_sub [1, 2, 3, 4, 0] rfl (hb76 x0 x1 x2 x3 (0 : Int32) h)
  unfold mX12_readCount
  refine J.ckd fun hck => ?_
  refine j_aload_n (q := 1) hx (dc kX12_readCount_0 0 rfl) rfl 0 rfl rfl ?_
  refine w_gR (q := 4) hx (dc kX12_readCount_0 1 rfl) ff_X12_1 lk_X12_13 rfl (fun v1 => ?_)
  refine j_iconst (q := 5) (v := (2 : Int32)) hx (dc kX12_readCount_0 2 rfl) (by decide) rfl ?_
  refine j_ldI (q := 6) hx (dc kX12_readCount_0 3 rfl) rfl (fun v2 => ?_)
  refine j_istore_n (q := 7) (i := 1) (l2 := [(0, vR x.2.2.2 x0)]) hx (dc kX12_readCount_0 4 rfl) rfl (hn 1 (by decide)) [0] rfl ⟨⟨show (0 : Nat) ≠ 1 by decide, Or.inr (vR_cat _ _)⟩, trivial⟩ rfl ?_
  refine j_aload_n (q := 8) hx (dc kX12_readCount_0 5 rfl) rfl 1 rfl rfl ?_
  refine j_iload_n (q := 9) hx (dc kX12_readCount_0 6 rfl) rfl 0 rfl rfl ?_
  refine j_iconst (q := 10) (v := (5 : Int32)) hx (dc kX12_readCount_0 7 rfl) (by decide) rfl ?_
  refine w_cVVW (q := 13) (As := [.int v2, .int (5 : Int32)]) (st := []) hx (dc kX12_readCount_0 8 rfl) cf12 (by decide) rfl (cI _ my_X12_room lm_X12_226 (by decide)) vs_X12_room rfl (fun u hu => sX12_room _ _ _ _ _ _ _ hu) (fun e => ite_ne (by unfold mX12_room at e; exact e)) (Nat.zero_le _) rfl (fun h4 => ?_)
  refine j_aload_n (q := 14) hx (dc kX12_readCount_0 9 rfl) rfl 1 rfl rfl ?_
  refine j_bipush (q := 16) (v := (8 : Int32)) hx (dc kX12_readCount_0 10 rfl) (by decide) rfl ?_
  refine j_iload_n (q := 17) hx (dc kX12_readCount_0 11 rfl) rfl 0 rfl rfl ?_
  refine j_iadd (q := 18) hx (dc kX12_readCount_0 12 rfl) rfl ?_
  refine w_cVVW (q := 21) (As := [.int ((8 : Int32) + v2)]) (st := []) hx (dc kX12_readCount_0 13 rfl) cf12 (by decide) rfl (cI _ my_X12_newName lm_X12_229 (by decide)) vs_X12_newName rfl (fun u hu => sX12_newName _ _ _ _ _ _ hu) (fun e => ite_ne (by unfold mX12_newName at e; exact e)) (Nat.zero_le _) rfl (fun h6 => ?_)
  refine j_aload_n (q := 22) hx (dc kX12_readCount_0 14 rfl) rfl 1 rfl rfl ?_
  refine j_aload_n (q := 23) hx (dc kX12_readCount_0 15 rfl) rfl 1 rfl rfl ?_
  refine j_ldcS (a := 5) (q := 25) hx (show (_, _, "worth", _) ∈ strs0 by decide +kernel) (dc kX12_readCount_0 16 rfl) rfl ?_
  refine w_cVIR (q := 28) (As := [vR x.2.2.2 15]) (st := [vR x.2.2.2 x0]) hx (dc kX12_readCount_0 17 rfl) cf12 (by decide) rfl (cI _ my_X12_isWord lm_X12_135 (by decide)) vs_X12_isWord rfl (fun u hu => sX12_isWord _ _ _ _ _ _ hu) (fun e => ite_ne (by unfold mX12_isWord at e; exact e)) (sum_le (sum_R sum_nil) (by decide)) rfl (fun v7 => ?_)
  refine w_cVVW (q := 31) (As := [.int v7]) (st := []) hx (dc kX12_readCount_0 18 rfl) cf12 (by decide) rfl (cI _ my_X12_must lm_X12_209 (by decide)) vs_X12_must rfl (fun u hu => sX12_must _ _ _ _ _ _ hu) (fun e => ite_ne (by unfold mX12_must at e; exact e)) (Nat.zero_le _) rfl (fun h10 => ?_)
  refine j_aload_n (q := 32) hx (dc kX12_readCount_0 19 rfl) rfl 1 rfl rfl ?_
  refine j_iconst (q := 33) (v := (0 : Int32)) hx (dc kX12_readCount_0 20 rfl) (by decide) rfl ?_
  refine j_sipush (q := 36) (v := (999 : Int32)) hx (dc kX12_readCount_0 21 rfl) (by decide) rfl ?_
  refine w_cVIW (q := 39) (As := [.int (0 : Int32), .int (999 : Int32)]) (st := []) hx (dc kX12_readCount_0 22 rfl) cf12 (by decide) rfl (cI _ my_X12_number lm_X12_219 (by decide)) vs_X12_number rfl (fun u hu => sX12_number _ _ _ _ _ _ _ hu) (fun e => ite_ne (by unfold mX12_number at e; exact e)) (Nat.zero_le _) rfl (fun v11 h12 => ?_)
  refine j_istore_n (q := 40) (i := 2) (l2 := [(1, .int v2), (0, vR x.2.2.2 x0)]) hx (dc kX12_readCount_0 23 rfl) rfl (hn 2 (by decide)) [0, 1] rfl ⟨⟨show (1 : Nat) ≠ 2 by decide, Or.inr rfl⟩, ⟨⟨show (0 : Nat) ≠ 2 by decide, Or.inl (show (0 : Nat) + 1 ≠ 2 by decide)⟩, trivial⟩⟩ rfl ?_
  refine j_aload_n (q := 41) hx (dc kX12_readCount_0 24 rfl) rfl 2 rfl rfl ?_
  refine j_aload_n (q := 42) hx (dc kX12_readCount_0 25 rfl) rfl 2 rfl rfl ?_
  refine j_ldcS (a := 6) (q := 44) hx (show (_, _, "arose", _) ∈ strs0 by decide +kernel) (dc kX12_readCount_0 26 rfl) rfl ?_
  refine w_cVIR (q := 47) (As := [vR x.2.2.2 16]) (st := [vR x.2.2.2 x0]) hx (dc kX12_readCount_0 27 rfl) cf12 (by decide) rfl (cI _ my_X12_isWord lm_X12_135 (by decide)) vs_X12_isWord rfl (fun u hu => sX12_isWord _ _ _ _ _ _ hu) (fun e => ite_ne (by unfold mX12_isWord at e; exact e)) (sum_le (sum_R sum_nil) (by decide)) rfl (fun v13 => ?_)
  refine w_cVVW (q := 50) (As := [.int v13]) (st := []) hx (dc kX12_readCount_0 28 rfl) cf12 (by decide) rfl (cI _ my_X12_must lm_X12_209 (by decide)) vs_X12_must rfl (fun u hu => sX12_must _ _ _ _ _ _ hu) (fun e => ite_ne (by unfold mX12_must at e; exact e)) (Nat.zero_le _) rfl (fun h16 => ?_)
  refine j_aload_n (q := 51) hx (dc kX12_readCount_0 29 rfl) rfl 2 rfl rfl ?_
  refine j_iconst (q := 52) (v := (0 : Int32)) hx (dc kX12_readCount_0 30 rfl) (by decide) rfl ?_
  refine j_sipush (q := 55) (v := (999 : Int32)) hx (dc kX12_readCount_0 31 rfl) (by decide) rfl ?_
  refine w_cVIW (q := 58) (As := [.int (0 : Int32), .int (999 : Int32)]) (st := []) hx (dc kX12_readCount_0 32 rfl) cf12 (by decide) rfl (cI _ my_X12_number lm_X12_219 (by decide)) vs_X12_number rfl (fun u hu => sX12_number _ _ _ _ _ _ _ hu) (fun e => ite_ne (by unfold mX12_number at e; exact e)) (Nat.zero_le _) rfl (fun v17 h18 => ?_)
  refine j_istore_n (q := 59) (i := 3) (l2 := [(2, .int v11), (1, .int v2), (0, vR x.2.2.2 x0)]) hx (dc kX12_readCount_0 33 rfl) rfl (hn 3 (by decide)) [0, 1, 2] rfl ⟨⟨show (2 : Nat) ≠ 3 by decide, Or.inr rfl⟩, ⟨⟨show (1 : Nat) ≠ 3 by decide, Or.inl (show (1 : Nat) + 1 ≠ 3 by decide)⟩, ⟨⟨show (0 : Nat) ≠ 3 by decide, Or.inl (show (0 : Nat) + 1 ≠ 3 by decide)⟩, trivial⟩⟩⟩ rfl ?_
  refine j_aload_n (q := 60) hx (dc kX12_readCount_0 34 rfl) rfl 3 rfl rfl ?_
  refine j_ldcS (a := 7) (q := 62) hx (show (_, _, "needs", _) ∈ strs0 by decide +kernel) (dc kX12_readCount_0 35 rfl) rfl ?_
  refine w_cVIR (q := 65) (As := [vR x.2.2.2 17]) (st := []) hx (dc kX12_readCount_0 36 rfl) cf12 (by decide) rfl (cI _ my_X12_isWord lm_X12_135 (by decide)) vs_X12_isWord rfl (fun u hu => sX12_isWord _ _ _ _ _ _ hu) (fun e => ite_ne (by unfold mX12_isWord at e; exact e)) (Nat.zero_le _) rfl (fun v19 => ?_)
  refine j_if_neS (q := 68) (tgt := 73) hx (dc kX12_readCount_0 37 rfl) (by decide) rfl ?_ ?_
  · exact j_sub [3, 2, 1, 0] rfl (hb73 x0 v2 v11 v17 h18)
  · refine j_aload_n (q := 69) hx (dc kX12_readCount_0 38 rfl) rfl 3 rfl rfl ?_
    refine j_iconst (q := 70) (v := (1 : Int32)) hx (dc kX12_readCount_0 39 rfl) (by decide) rfl ?_
    refine w_cVVW (q := 73) (As := [.int (1 : Int32)]) (st := []) hx (dc kX12_readCount_0 40 rfl) cf12 (by decide) rfl (cI _ my_X12_wrong lm_X12_165 (by decide)) vs_X12_wrong rfl (fun u hu => sX12_wrong _ _ _ _ _ _ hu) (fun e => ite_ne (by unfold mX12_wrong at e; exact e)) (Nat.zero_le _) rfl (fun h45 => ?_)
    exact j_sub [3, 2, 1, 0] rfl (hb73 x0 v2 v11 v17 h45)

set_option maxHeartbeats 4000000 in
set_option maxRecDepth 100000 in
theorem sX12_readPlea (l : Launch) (w : Wd) (x0 : Nat) (h : Hp) (u : Hp) (hK : mX12_readPlea x0 h = some u) : M1 l w mi_X12_readPlea 52 [vR w x0] h u (none) := by
  refine M1.of (own := RX12) (T := fun _ r => r = u) hK (by decide +kernel) rfl (by first | (simp only [lg_lenR, lg_lenI, lg_lenL, lg_len0]; decide) | decide) (fun x hx hnl hhf hl hw hret hnm hQ h0e => ⟨?_, rfl⟩)
  subst hw
  subst hl
  have hR : Rt x h u (none) (none) := ⟨h0e, hhf, hret, hQ⟩
  have hn : ∀ i, i < 3 → i < x.2.2.1.1.1 := fun i hi => by rw [hnl]; exact hi
  have e0 : lv_args 0 [vR x.2.2.2 x0] = [(0, vR x.2.2.2 x0)] := by simp only [lv_argsR, lv_argsI, lv_argsL, lv_args0]
  rw [e0]
  unfold mX12_readPlea
  refine J.ckd fun hck => ?_
  refine j_aload_n (q := 1) hx (dc kX12_readPlea_0 0 rfl) rfl 0 rfl rfl ?_
  refine j_aload_n (q := 2) hx (dc kX12_readPlea_0 1 rfl) rfl 0 rfl rfl ?_
  refine w_gR (q := 5) hx (dc kX12_readPlea_0 2 rfl) ff_X12_1 lk_X12_13 rfl (fun v1 => ?_)
  refine j_iconst (q := 6) (v := (4 : Int32)) hx (dc kX12_readPlea_0 3 rfl) (by decide) rfl ?_
  refine j_ldI (q := 7) hx (dc kX12_readPlea_0 4 rfl) rfl (fun v2 => ?_)
  refine j_bipush (q := 9) (v := (6 : Int32)) hx (dc kX12_readPlea_0 5 rfl) (by decide) rfl ?_
  refine w_cVVW (q := 12) (As := [.int v2, .int (6 : Int32)]) (st := []) hx (dc kX12_readPlea_0 6 rfl) cf12 (by decide) rfl (cI _ my_X12_room lm_X12_226 (by decide)) vs_X12_room rfl (fun u hu => sX12_room _ _ _ _ _ _ _ hu) (fun e => ite_ne (by unfold mX12_room at e; exact e)) (Nat.zero_le _) rfl (fun h4 => ?_)
  refine j_aload_n (q := 13) hx (dc kX12_readPlea_0 7 rfl) rfl 0 rfl rfl ?_
  refine j_iconst (q := 14) (v := (0 : Int32)) hx (dc kX12_readPlea_0 8 rfl) (by decide) rfl ?_
  refine w_cVIW (q := 17) (As := [.int (0 : Int32)]) (st := []) hx (dc kX12_readPlea_0 9 rfl) cf12 (by decide) rfl (cI _ my_X12_known lm_X12_216 (by decide)) vs_X12_known rfl (fun u hu => sX12_known _ _ _ _ _ _ hu) (fun e => ite_ne (by unfold mX12_known at e; exact e)) (Nat.zero_le _) rfl (fun v5 h6 => ?_)
  refine j_istore_n (q := 18) (i := 1) (l2 := [(0, vR x.2.2.2 x0)]) hx (dc kX12_readPlea_0 10 rfl) rfl (hn 1 (by decide)) [0] rfl ⟨⟨show (0 : Nat) ≠ 1 by decide, Or.inr (vR_cat _ _)⟩, trivial⟩ rfl ?_
  refine j_aload_n (q := 19) hx (dc kX12_readPlea_0 11 rfl) rfl 1 rfl rfl ?_
  refine w_cVIW (q := 22) (As := []) (st := []) hx (dc kX12_readPlea_0 12 rfl) cf12 (by decide) rfl (cI _ my_X12_expr lm_X12_232 (by decide)) vs_X12_expr rfl (fun u hu => sX12_expr _ _ _ _ _ hu) (fun e => ite_ne (by unfold mX12_expr at e; exact e)) (Nat.zero_le _) rfl (fun v7 h8 => ?_)
  refine j_istore_n (q := 23) (i := 2) (l2 := [(1, .int v5), (0, vR x.2.2.2 x0)]) hx (dc kX12_readPlea_0 13 rfl) rfl (hn 2 (by decide)) [0, 1] rfl ⟨⟨show (1 : Nat) ≠ 2 by decide, Or.inr rfl⟩, ⟨⟨show (0 : Nat) ≠ 2 by decide, Or.inl (show (0 : Nat) + 1 ≠ 2 by decide)⟩, trivial⟩⟩ rfl ?_
  refine j_aload_n (q := 24) hx (dc kX12_readPlea_0 14 rfl) rfl 2 rfl rfl ?_
  refine j_aload_n (q := 25) hx (dc kX12_readPlea_0 15 rfl) rfl 2 rfl rfl ?_
  refine j_bipush (q := 27) (v := (59 : Int32)) hx (dc kX12_readPlea_0 16 rfl) (by decide) rfl ?_
  refine w_cVIR (q := 30) (As := [.int (59 : Int32)]) (st := [vR x.2.2.2 x0]) hx (dc kX12_readPlea_0 17 rfl) cf12 (by decide) rfl (cI _ my_X12_isSign lm_X12_195 (by decide)) vs_X12_isSign rfl (fun u hu => sX12_isSign _ _ _ _ _ _ hu) (fun e => ite_ne (by unfold mX12_isSign at e; exact e)) (sum_le (sum_R sum_nil) (by decide)) rfl (fun v9 => ?_)
  refine w_cVVW (q := 33) (As := [.int v9]) (st := []) hx (dc kX12_readPlea_0 18 rfl) cf12 (by decide) rfl (cI _ my_X12_must lm_X12_209 (by decide)) vs_X12_must rfl (fun u hu => sX12_must _ _ _ _ _ _ hu) (fun e => ite_ne (by unfold mX12_must at e; exact e)) (Nat.zero_le _) rfl (fun h12 => ?_)
  refine j_aload_n (q := 34) hx (dc kX12_readPlea_0 19 rfl) rfl 2 rfl rfl ?_
  refine w_gI (q := 37) hx (dc kX12_readPlea_0 20 rfl) ff_X12_17 lk_X12_126 rfl (fun v13 => ?_)
  refine j_if_neS (q := 40) (tgt := 80) hx (dc kX12_readPlea_0 21 rfl) (by decide) rfl ?_ ?_
  · exact r_vW hx hR (dc kX12_readPlea_0 50 rfl)
  · refine j_aload_n (q := 41) hx (dc kX12_readPlea_0 22 rfl) rfl 2 rfl rfl ?_
    refine w_gR (q := 44) hx (dc kX12_readPlea_0 23 rfl) ff_X12_1 lk_X12_13 rfl (fun v14 => ?_)
    refine j_bipush (q := 46) (v := (66 : Int32)) hx (dc kX12_readPlea_0 24 rfl) (by decide) rfl ?_
    refine j_aload_n (q := 47) hx (dc kX12_readPlea_0 25 rfl) rfl 2 rfl rfl ?_
    refine w_gR (q := 50) hx (dc kX12_readPlea_0 26 rfl) ff_X12_1 lk_X12_13 rfl (fun v15 => ?_)
    refine j_iconst (q := 51) (v := (4 : Int32)) hx (dc kX12_readPlea_0 27 rfl) (by decide) rfl ?_
    refine j_ldI (q := 52) hx (dc kX12_readPlea_0 28 rfl) rfl (fun v16 => ?_)
    refine j_iadd (q := 53) hx (dc kX12_readPlea_0 29 rfl) rfl ?_
    refine j_iload_n (q := 54) hx (dc kX12_readPlea_0 30 rfl) rfl 1 rfl rfl ?_
    refine w_stI (q := 55) hx (dc kX12_readPlea_0 31 rfl) rfl (fun h17 => ?_)
    refine j_aload_n (q := 56) hx (dc kX12_readPlea_0 32 rfl) rfl 2 rfl rfl ?_
    refine w_gR (q := 59) hx (dc kX12_readPlea_0 33 rfl) ff_X12_1 lk_X12_13 rfl (fun v18 => ?_)
    refine j_bipush (q := 61) (v := (72 : Int32)) hx (dc kX12_readPlea_0 34 rfl) (by decide) rfl ?_
    refine j_aload_n (q := 62) hx (dc kX12_readPlea_0 35 rfl) rfl 2 rfl rfl ?_
    refine w_gR (q := 65) hx (dc kX12_readPlea_0 36 rfl) ff_X12_1 lk_X12_13 rfl (fun v19 => ?_)
    refine j_iconst (q := 66) (v := (4 : Int32)) hx (dc kX12_readPlea_0 37 rfl) (by decide) rfl ?_
    refine j_ldI (q := 67) hx (dc kX12_readPlea_0 38 rfl) rfl (fun v20 => ?_)
    refine j_iadd (q := 68) hx (dc kX12_readPlea_0 39 rfl) rfl ?_
    refine j_iload_n (q := 69) hx (dc kX12_readPlea_0 40 rfl) rfl 0 rfl rfl ?_
    refine w_stI (q := 70) hx (dc kX12_readPlea_0 41 rfl) rfl (fun h21 => ?_)
    refine j_aload_n (q := 71) hx (dc kX12_readPlea_0 42 rfl) rfl 2 rfl rfl ?_
    refine w_gR (q := 74) hx (dc kX12_readPlea_0 43 rfl) ff_X12_1 lk_X12_13 rfl (fun v22 => ?_)
    refine j_iconst (q := 75) (v := (4 : Int32)) hx (dc kX12_readPlea_0 44 rfl) (by decide) rfl ?_
    refine j_dup2_11 (q := 76) hx (dc kX12_readPlea_0 45 rfl) rfl (vR_cat _ _) rfl ?_
    refine j_ldI (q := 77) hx (dc kX12_readPlea_0 46 rfl) rfl (fun v23 => ?_)
    refine j_iconst (q := 78) (v := (1 : Int32)) hx (dc kX12_readPlea_0 47 rfl) (by decide) rfl ?_
    refine j_iadd (q := 79) hx (dc kX12_readPlea_0 48 rfl) rfl ?_
    refine w_stI (q := 80) hx (dc kX12_readPlea_0 49 rfl) rfl (fun h24 => ?_)
    exact r_vW hx hR (dc kX12_readPlea_0 50 rfl)

set_option maxHeartbeats 4000000 in
set_option maxRecDepth 100000 in
theorem sX12_readSays (l : Launch) (w : Wd) (x0 : Nat) (h : Hp) (u : Hp) (hK : mX12_readSays x0 h = some u) : M1 l w mi_X12_readSays 10 [vR w x0] h u (none) := by
  refine M1.of (own := RX12) (T := fun _ r => r = u) hK (by decide +kernel) rfl (by first | (simp only [lg_lenR, lg_lenI, lg_lenL, lg_len0]; decide) | decide) (fun x hx hnl hhf hl hw hret hnm hQ h0e => ⟨?_, rfl⟩)
  subst hw
  subst hl
  have hR : Rt x h u (none) (none) := ⟨h0e, hhf, hret, hQ⟩
  have hn : ∀ i, i < 4 → i < x.2.2.1.1.1 := fun i hi => by rw [hnl]; exact hi
  have e0 : lv_args 0 [vR x.2.2.2 x0] = [(0, vR x.2.2.2 x0)] := by simp only [lv_argsR, lv_argsI, lv_argsL, lv_args0]
  rw [e0]
  have hb117 : ∀ (t0 : Nat) (t1 : Int32) (t2 : Int32) (t3 : Int32) (h : Hp), J x 117 [] [.int t3, .int t2, .int t1, vR x.2.2.2 t0] h (mX12_readSays_b117 t0 t1 t2 t3 h) (fun r => r = u) := by
    intro t0 t1 t2 t3 h
    unfold mX12_readSays_b117
    refine j_ior (q := 118) hx (dc kX12_readSays_1 6 rfl) rfl ?_
    refine w_stI (q := 119) hx (dc kX12_readSays_1 7 rfl) rfl (fun h25 => ?_)
    exact r_vW hx hR (dc kX12_readSays_1 8 rfl)
  have hb60 : ∀ (x0 : Nat) (x1 : Int32) (x2 : Int32) (x3 : Int32) (h : Hp), J x 60 [(0, vR x.2.2.2 x0), (1, .int x1), (2, .int x2), (3, .int x3)] [] h (mX12_readSays_b60 x0 x1 x2 x3 h) (fun r => r = u) := by
    intro x0 x1 x2 x3 h
    unfold mX12_readSays_b60
    refine j_aload_n (q := 61) hx (dc kX12_readSays_0 34 rfl) rfl 0 rfl rfl ?_
    refine w_cVVW (q := 64) (As := []) (st := []) hx (dc kX12_readSays_0 35 rfl) cf12 (by decide) rfl (cI _ my_X12_passes lm_X12_169 (by decide)) vs_X12_passes rfl (fun u hu => sX12_passes _ _ _ _ _ hu) (fun e => ite_ne (by unfold mX12_passes at e; exact e)) (Nat.zero_le _) rfl (fun h14 => ?_)
    refine j_aload_n (q := 65) hx (dc kX12_readSays_0 36 rfl) rfl 0 rfl rfl ?_
    refine j_aload_n (q := 66) hx (dc kX12_readSays_0 37 rfl) rfl 0 rfl rfl ?_
    refine j_bipush (q := 68) (v := (59 : Int32)) hx (dc kX12_readSays_0 38 rfl) (by decide) rfl ?_
    refine w_cVIR (q := 71) (As := [.int (59 : Int32)]) (st := [vR x.2.2.2 x0]) hx (dc kX12_readSays_0 39 rfl) cf12 (by decide) rfl (cI _ my_X12_isSign lm_X12_195 (by decide)) vs_X12_isSign rfl (fun u hu => sX12_isSign _ _ _ _ _ _ hu) (fun e => ite_ne (by unfold mX12_isSign at e; exact e)) (sum_le (sum_R sum_nil) (by decide)) rfl (fun v15 => ?_)
    refine w_cVVW (q := 74) (As := [.int v15]) (st := []) hx (dc kX12_readSays_0 40 rfl) cf12 (by decide) rfl (cI _ my_X12_must lm_X12_209 (by decide)) vs_X12_must rfl (fun u hu => sX12_must _ _ _ _ _ _ hu) (fun e => ite_ne (by unfold mX12_must at e; exact e)) (Nat.zero_le _) rfl (fun h18 => ?_)
    refine j_aload_n (q := 75) hx (dc kX12_readSays_0 41 rfl) rfl 0 rfl rfl ?_
    refine w_gI (q := 78) hx (dc kX12_readSays_0 42 rfl) ff_X12_17 lk_X12_126 rfl (fun v19 => ?_)
    refine j_if_neS (q := 81) (tgt := 119) hx (dc kX12_readSays_0 43 rfl) (by decide) rfl ?_ ?_
    · exact r_vW hx hR (dc kX12_readSays_1 8 rfl)
    · refine j_aload_n (q := 82) hx (dc kX12_readSays_0 44 rfl) rfl 0 rfl rfl ?_
      refine w_gR (q := 85) hx (dc kX12_readSays_0 45 rfl) ff_X12_1 lk_X12_13 rfl (fun v20 => ?_)
      refine j_bipush (q := 87) (v := (51 : Int32)) hx (dc kX12_readSays_0 46 rfl) (by decide) rfl ?_
      refine j_iload_n (q := 88) hx (dc kX12_readSays_0 47 rfl) rfl 1 rfl rfl ?_
      refine j_iadd (q := 89) hx (dc kX12_readSays_0 48 rfl) rfl ?_
      refine j_dup2_11 (q := 90) hx (dc kX12_readSays_0 49 rfl) rfl (vR_cat _ _) rfl ?_
      refine j_ldI (q := 91) hx (dc kX12_readSays_0 50 rfl) rfl (fun v21 => ?_)
      refine j_iconst (q := 92) (v := (1 : Int32)) hx (dc kX12_readSays_0 51 rfl) (by decide) rfl ?_
      refine j_iload_n (q := 93) hx (dc kX12_readSays_0 52 rfl) rfl 3 rfl rfl ?_
      refine j_ishl (q := 94) hx (dc kX12_readSays_0 53 rfl) rfl ?_
      refine j_ior (q := 95) hx (dc kX12_readSays_0 54 rfl) rfl ?_
      refine w_stI (q := 96) hx (dc kX12_readSays_0 55 rfl) rfl (fun h22 => ?_)
      refine j_aload_n (q := 97) hx (dc kX12_readSays_0 56 rfl) rfl 0 rfl rfl ?_
      refine w_gR (q := 100) hx (dc kX12_readSays_0 57 rfl) ff_X12_1 lk_X12_13 rfl (fun v23 => ?_)
      refine j_bipush (q := 102) (v := (56 : Int32)) hx (dc kX12_readSays_0 58 rfl) (by decide) rfl ?_
      refine j_iload_n (q := 103) hx (dc kX12_readSays_0 59 rfl) rfl 1 rfl rfl ?_
      refine j_iadd (q := 104) hx (dc kX12_readSays_0 60 rfl) rfl ?_
      refine j_dup2_11 (q := 105) hx (dc kX12_readSays_0 61 rfl) rfl (vR_cat _ _) rfl ?_
      refine j_ldI (q := 106) hx (dc kX12_readSays_0 62 rfl) rfl (fun v24 => ?_)
      refine j_iload_n (q := 107) hx (dc kX12_readSays_0 63 rfl) rfl 2 rfl rfl ?_
      refine j_if_eq (q := 110) (tgt := 116) hx (dc kX12_readSays_1 0 rfl) (by decide) Iff.rfl rfl ?_ ?_
      · refine j_iconst (q := 117) (v := (0 : Int32)) hx (dc kX12_readSays_1 5 rfl) (by decide) rfl ?_
        exact j_sub [] rfl (hb117 v23 ((56 : Int32) + x1) v24 (0 : Int32) h22)
      · refine j_iconst (q := 111) (v := (1 : Int32)) hx (dc kX12_readSays_1 1 rfl) (by decide) rfl ?_
        refine j_iload_n (q := 112) hx (dc kX12_readSays_1 2 rfl) rfl 3 rfl rfl ?_
        refine j_ishl (q := 113) hx (dc kX12_readSays_1 3 rfl) rfl ?_
        refine j_goto (q := 117) hx (dc kX12_readSays_1 4 rfl) (by decide) ?_
        exact j_sub [] rfl (hb117 v23 ((56 : Int32) + x1) v24 ((1 : Int32) <<< (x3 &&& 31)) h22)
  have hb33 : ∀ (x0 : Nat) (x1 : Int32) (x2 : Int32) (h : Hp), J x 33 [(0, vR x.2.2.2 x0), (1, .int x1), (2, .int x2)] [] h (mX12_readSays_b33 x0 x1 x2 h) (fun r => r = u) := by
    intro x0 x1 x2 h
    unfold mX12_readSays_b33
    refine j_aload_n (q := 34) hx (dc kX12_readSays_0 18 rfl) rfl 0 rfl rfl ?_
    refine j_iconst (q := 35) (v := (1 : Int32)) hx (dc kX12_readSays_0 19 rfl) (by decide) rfl ?_
    refine w_cVIW (q := 38) (As := [.int (1 : Int32)]) (st := []) hx (dc kX12_readSays_0 20 rfl) cf12 (by decide) rfl (cI _ my_X12_here lm_X12_182 (by decide)) vs_X12_here rfl (fun u hu => sX12_here _ _ _ _ _ _ hu) (fun e => ite_ne (by unfold mX12_here at e; exact e)) (Nat.zero_le _) rfl (fun v7 h8 => ?_)
    refine j_istore_n (q := 39) (i := 3) (l2 := [(0, vR x.2.2.2 x0), (1, .int x1), (2, .int x2)]) hx (dc kX12_readSays_0 21 rfl) rfl (hn 3 (by decide)) [0, 1, 2] rfl ⟨⟨show (0 : Nat) ≠ 3 by decide, Or.inl (show (0 : Nat) + 1 ≠ 3 by decide)⟩, ⟨⟨show (1 : Nat) ≠ 3 by decide, Or.inl (show (1 : Nat) + 1 ≠ 3 by decide)⟩, ⟨⟨show (2 : Nat) ≠ 3 by decide, Or.inr rfl⟩, trivial⟩⟩⟩ rfl ?_
    refine j_aload_n (q := 40) hx (dc kX12_readSays_0 22 rfl) rfl 1 rfl rfl ?_
    refine w_gR (q := 43) hx (dc kX12_readSays_0 23 rfl) ff_X12_1 lk_X12_13 rfl (fun v9 => ?_)
    refine j_bipush (q := 45) (v := (51 : Int32)) hx (dc kX12_readSays_0 24 rfl) (by decide) rfl ?_
    refine j_iload_n (q := 46) hx (dc kX12_readSays_0 25 rfl) rfl 2 rfl rfl ?_
    refine j_iadd (q := 47) hx (dc kX12_readSays_0 26 rfl) rfl ?_
    refine j_ldI (q := 48) hx (dc kX12_readSays_0 27 rfl) rfl (fun v10 => ?_)
    refine j_iload_n (q := 49) hx (dc kX12_readSays_0 28 rfl) rfl 0 rfl rfl ?_
    refine w_cSIR (q := 52) (As := [.int v10, .int v7]) (st := []) hx (dc kX12_readSays_0 29 rfl) (cI _ my_X12_has lm_X12_239 (by decide)) st_X12_has rfl (fun u hu => sX12_has _ _ _ _ _ _ hu) (Nat.zero_le _) rfl (fun v11 => ?_)
    refine j_if_eq (q := 55) (tgt := 60) hx (dc kX12_readSays_0 30 rfl) (by decide) Iff.rfl rfl ?_ ?_
    · exact j_sub [1, 2, 3, 0] rfl (hb60 x0 x1 x2 v7 h8)
    · refine j_aload_n (q := 56) hx (dc kX12_readSays_0 31 rfl) rfl 1 rfl rfl ?_
      refine j_iconst (q := 57) (v := (3 : Int32)) hx (dc kX12_readSays_0 32 rfl) (by decide) rfl ?_
      refine w_cVVW (q := 60) (As := [.int (3 : Int32)]) (st := []) hx (dc kX12_readSays_0 33 rfl) cf12 (by decide) rfl (cI _ my_X12_wrong lm_X12_165 (by decide)) vs_X12_wrong rfl (fun u hu => sX12_wrong _ _ _ _ _ _ hu) (fun e => ite_ne (by unfold mX12_wrong at e; exact e)) (Nat.zero_le _) rfl (fun h27 => ?_)
      exact j_sub [1, 2, 3, 0] rfl (hb60 x0 x1 x2 v7 h27)
  have hb24 : ∀ (x0 : Nat) (x1 : Int32) (t0 : Int32) (h : Hp), J x 24 [(0, vR x.2.2.2 x0), (1, .int x1)] [.int t0] h (mX12_readSays_b24 x0 x1 t0 h) (fun r => r = u) := by
    intro x0 x1 t0 h
    unfold mX12_readSays_b24
    refine j_istore_n (q := 25) (i := 2) (l2 := [(0, vR x.2.2.2 x0), (1, .int x1)]) hx (dc kX12_readSays_0 13 rfl) rfl (hn 2 (by decide)) [0, 1] rfl ⟨⟨show (0 : Nat) ≠ 2 by decide, Or.inl (show (0 : Nat) + 1 ≠ 2 by decide)⟩, ⟨⟨show (1 : Nat) ≠ 2 by decide, Or.inr rfl⟩, trivial⟩⟩ rfl ?_
    refine j_iload_n (q := 26) hx (dc kX12_readSays_0 14 rfl) rfl 0 rfl rfl ?_
    refine j_if_neS (q := 29) (tgt := 33) hx (dc kX12_readSays_0 15 rfl) (by decide) rfl ?_ ?_
    · exact j_sub [1, 2, 0] rfl (hb33 x0 x1 t0 h)
    · refine j_aload_n (q := 30) hx (dc kX12_readSays_0 16 rfl) rfl 1 rfl rfl ?_
      refine w_cVVW (q := 33) (As := []) (st := []) hx (dc kX12_readSays_0 17 rfl) cf12 (by decide) rfl (cI _ my_X12_next lm_X12_162 (by decide)) vs_X12_next rfl (fun u hu => sX12_next _ _ _ _ _ hu) (fun e => ite_ne (by unfold mX12_next at e; exact e)) (Nat.zero_le _) rfl (fun h29 => ?_)
      exact j_sub [1, 2, 0] rfl (hb33 x0 x1 t0 h29)
  unfold mX12_readSays
  refine J.ckd fun hck => ?_
  refine j_aload_n (q := 1) hx (dc kX12_readSays_0 0 rfl) rfl 0 rfl rfl ?_
  refine w_cVVW (q := 4) (As := []) (st := []) hx (dc kX12_readSays_0 1 rfl) cf12 (by decide) rfl (cI _ my_X12_next lm_X12_162 (by decide)) vs_X12_next rfl (fun u hu => sX12_next _ _ _ _ _ hu) (fun e => ite_ne (by unfold mX12_next at e; exact e)) (Nat.zero_le _) rfl (fun h2 => ?_)
  refine j_aload_n (q := 5) hx (dc kX12_readSays_0 2 rfl) rfl 0 rfl rfl ?_
  refine j_iconst (q := 6) (v := (0 : Int32)) hx (dc kX12_readSays_0 3 rfl) (by decide) rfl ?_
  refine w_cVIW (q := 9) (As := [.int (0 : Int32)]) (st := []) hx (dc kX12_readSays_0 4 rfl) cf12 (by decide) rfl (cI _ my_X12_known lm_X12_216 (by decide)) vs_X12_known rfl (fun u hu => sX12_known _ _ _ _ _ _ hu) (fun e => ite_ne (by unfold mX12_known at e; exact e)) (Nat.zero_le _) rfl (fun v3 h4 => ?_)
  refine j_istore_n (q := 10) (i := 1) (l2 := [(0, vR x.2.2.2 x0)]) hx (dc kX12_readSays_0 5 rfl) rfl (hn 1 (by decide)) [0] rfl ⟨⟨show (0 : Nat) ≠ 1 by decide, Or.inr (vR_cat _ _)⟩, trivial⟩ rfl ?_
  refine j_aload_n (q := 11) hx (dc kX12_readSays_0 6 rfl) rfl 1 rfl rfl ?_
  refine j_bipush (q := 13) (v := (33 : Int32)) hx (dc kX12_readSays_0 7 rfl) (by decide) rfl ?_
  refine w_cVIR (q := 16) (As := [.int (33 : Int32)]) (st := []) hx (dc kX12_readSays_0 8 rfl) cf12 (by decide) rfl (cI _ my_X12_isSign lm_X12_195 (by decide)) vs_X12_isSign rfl (fun u hu => sX12_isSign _ _ _ _ _ _ hu) (fun e => ite_ne (by unfold mX12_isSign at e; exact e)) (Nat.zero_le _) rfl (fun v5 => ?_)
  refine j_if_neS (q := 19) (tgt := 23) hx (dc kX12_readSays_0 9 rfl) (by decide) rfl ?_ ?_
  · refine j_iconst (q := 24) (v := (0 : Int32)) hx (dc kX12_readSays_0 12 rfl) (by decide) rfl ?_
    exact j_sub [1, 0] rfl (hb24 x0 v3 (0 : Int32) h4)
  · refine j_iconst (q := 20) (v := (1 : Int32)) hx (dc kX12_readSays_0 10 rfl) (by decide) rfl ?_
    refine j_goto (q := 24) hx (dc kX12_readSays_0 11 rfl) (by decide) ?_
    exact j_sub [1, 0] rfl (hb24 x0 v3 (1 : Int32) h4)

set_option maxHeartbeats 4000000 in
set_option maxRecDepth 100000 in
theorem sX12_readSame (l : Launch) (w : Wd) (x0 : Nat) (h : Hp) (u : Hp) (hK : mX12_readSame x0 h = some u) : M1 l w mi_X12_readSame 10 [vR w x0] h u (none) := by
  refine M1.of (own := RX12) (T := fun _ r => r = u) hK (by decide +kernel) rfl (by first | (simp only [lg_lenR, lg_lenI, lg_lenL, lg_len0]; decide) | decide) (fun x hx hnl hhf hl hw hret hnm hQ h0e => ⟨?_, rfl⟩)
  subst hw
  subst hl
  have hR : Rt x h u (none) (none) := ⟨h0e, hhf, hret, hQ⟩
  have hn : ∀ i, i < 3 → i < x.2.2.1.1.1 := fun i hi => by rw [hnl]; exact hi
  have e0 : lv_args 0 [vR x.2.2.2 x0] = [(0, vR x.2.2.2 x0)] := by simp only [lv_argsR, lv_argsI, lv_argsL, lv_args0]
  rw [e0]
  have hb42 : ∀ (x0 : Nat) (x1 : Int32) (x2 : Int32) (h : Hp), J x 42 [(0, vR x.2.2.2 x0), (1, .int x1), (2, .int x2)] [] h (mX12_readSame_b42 x0 x1 x2 h) (fun r => r = u) := by
    intro x0 x1 x2 h
    unfold mX12_readSame_b42
    refine j_aload_n (q := 43) hx (dc kX12_readSame_0 25 rfl) rfl 0 rfl rfl ?_
    refine w_cVVW (q := 46) (As := []) (st := []) hx (dc kX12_readSame_0 26 rfl) cf12 (by decide) rfl (cI _ my_X12_passes lm_X12_169 (by decide)) vs_X12_passes rfl (fun u hu => sX12_passes _ _ _ _ _ hu) (fun e => ite_ne (by unfold mX12_passes at e; exact e)) (Nat.zero_le _) rfl (fun h10 => ?_)
    refine j_aload_n (q := 47) hx (dc kX12_readSame_0 27 rfl) rfl 0 rfl rfl ?_
    refine j_aload_n (q := 48) hx (dc kX12_readSame_0 28 rfl) rfl 0 rfl rfl ?_
    refine j_bipush (q := 50) (v := (59 : Int32)) hx (dc kX12_readSame_0 29 rfl) (by decide) rfl ?_
    refine w_cVIR (q := 53) (As := [.int (59 : Int32)]) (st := [vR x.2.2.2 x0]) hx (dc kX12_readSame_0 30 rfl) cf12 (by decide) rfl (cI _ my_X12_isSign lm_X12_195 (by decide)) vs_X12_isSign rfl (fun u hu => sX12_isSign _ _ _ _ _ _ hu) (fun e => ite_ne (by unfold mX12_isSign at e; exact e)) (sum_le (sum_R sum_nil) (by decide)) rfl (fun v11 => ?_)
    refine w_cVVW (q := 56) (As := [.int v11]) (st := []) hx (dc kX12_readSame_0 31 rfl) cf12 (by decide) rfl (cI _ my_X12_must lm_X12_209 (by decide)) vs_X12_must rfl (fun u hu => sX12_must _ _ _ _ _ _ hu) (fun e => ite_ne (by unfold mX12_must at e; exact e)) (Nat.zero_le _) rfl (fun h14 => ?_)
    refine j_aload_n (q := 57) hx (dc kX12_readSame_0 32 rfl) rfl 0 rfl rfl ?_
    refine w_gI (q := 60) hx (dc kX12_readSame_0 33 rfl) ff_X12_17 lk_X12_126 rfl (fun v15 => ?_)
    refine j_if_neS (q := 63) (tgt := 93) hx (dc kX12_readSame_0 34 rfl) (by decide) rfl ?_ ?_
    · exact r_vW hx hR (dc kX12_readSame_0 59 rfl)
    · refine j_aload_n (q := 64) hx (dc kX12_readSame_0 35 rfl) rfl 0 rfl rfl ?_
      refine w_gR (q := 67) hx (dc kX12_readSame_0 36 rfl) ff_X12_1 lk_X12_13 rfl (fun v16 => ?_)
      refine j_bipush (q := 69) (v := (61 : Int32)) hx (dc kX12_readSame_0 37 rfl) (by decide) rfl ?_
      refine j_iload_n (q := 70) hx (dc kX12_readSame_0 38 rfl) rfl 1 rfl rfl ?_
      refine j_iadd (q := 71) hx (dc kX12_readSame_0 39 rfl) rfl ?_
      refine j_dup2_11 (q := 72) hx (dc kX12_readSame_0 40 rfl) rfl (vR_cat _ _) rfl ?_
      refine j_ldI (q := 73) hx (dc kX12_readSame_0 41 rfl) rfl (fun v17 => ?_)
      refine j_iconst (q := 74) (v := (1 : Int32)) hx (dc kX12_readSame_0 42 rfl) (by decide) rfl ?_
      refine j_iload_n (q := 75) hx (dc kX12_readSame_0 43 rfl) rfl 2 rfl rfl ?_
      refine j_ishl (q := 76) hx (dc kX12_readSame_0 44 rfl) rfl ?_
      refine j_ior (q := 77) hx (dc kX12_readSame_0 45 rfl) rfl ?_
      refine w_stI (q := 78) hx (dc kX12_readSame_0 46 rfl) rfl (fun h18 => ?_)
      refine j_aload_n (q := 79) hx (dc kX12_readSame_0 47 rfl) rfl 0 rfl rfl ?_
      refine w_gR (q := 82) hx (dc kX12_readSame_0 48 rfl) ff_X12_1 lk_X12_13 rfl (fun v19 => ?_)
      refine j_bipush (q := 84) (v := (61 : Int32)) hx (dc kX12_readSame_0 49 rfl) (by decide) rfl ?_
      refine j_iload_n (q := 85) hx (dc kX12_readSame_0 50 rfl) rfl 2 rfl rfl ?_
      refine j_iadd (q := 86) hx (dc kX12_readSame_0 51 rfl) rfl ?_
      refine j_dup2_11 (q := 87) hx (dc kX12_readSame_0 52 rfl) rfl (vR_cat _ _) rfl ?_
      refine j_ldI (q := 88) hx (dc kX12_readSame_0 53 rfl) rfl (fun v20 => ?_)
      refine j_iconst (q := 89) (v := (1 : Int32)) hx (dc kX12_readSame_0 54 rfl) (by decide) rfl ?_
      refine j_iload_n (q := 90) hx (dc kX12_readSame_0 55 rfl) rfl 1 rfl rfl ?_
      refine j_ishl (q := 91) hx (dc kX12_readSame_0 56 rfl) rfl ?_
      refine j_ior (q := 92) hx (dc kX12_readSame_0 57 rfl) rfl ?_
      refine w_stI (q := 93) hx (dc kX12_readSame_0 58 rfl) rfl (fun h21 => ?_)
      exact r_vW hx hR (dc kX12_readSame_0 59 rfl)
  have hb37 : ∀ (x0 : Nat) (x1 : Int32) (x2 : Int32) (h : Hp), J x 37 [(0, vR x.2.2.2 x0), (1, .int x1), (2, .int x2)] [] h (mX12_readSame_b37 x0 x1 x2 h) (fun r => r = u) := by
    intro x0 x1 x2 h
    unfold mX12_readSame_b37
    refine j_aload_n (q := 38) hx (dc kX12_readSame_0 22 rfl) rfl 0 rfl rfl ?_
    refine j_iconst (q := 39) (v := (3 : Int32)) hx (dc kX12_readSame_0 23 rfl) (by decide) rfl ?_
    refine w_cVVW (q := 42) (As := [.int (3 : Int32)]) (st := []) hx (dc kX12_readSame_0 24 rfl) cf12 (by decide) rfl (cI _ my_X12_wrong lm_X12_165 (by decide)) vs_X12_wrong rfl (fun u hu => sX12_wrong _ _ _ _ _ _ hu) (fun e => ite_ne (by unfold mX12_wrong at e; exact e)) (Nat.zero_le _) rfl (fun h8 => ?_)
    exact hb42 x0 x1 x2 h8
  unfold mX12_readSame
  refine J.ckd fun hck => ?_
  refine j_aload_n (q := 1) hx (dc kX12_readSame_0 0 rfl) rfl 0 rfl rfl ?_
  refine w_cVVW (q := 4) (As := []) (st := []) hx (dc kX12_readSame_0 1 rfl) cf12 (by decide) rfl (cI _ my_X12_next lm_X12_162 (by decide)) vs_X12_next rfl (fun u hu => sX12_next _ _ _ _ _ hu) (fun e => ite_ne (by unfold mX12_next at e; exact e)) (Nat.zero_le _) rfl (fun h2 => ?_)
  refine j_aload_n (q := 5) hx (dc kX12_readSame_0 2 rfl) rfl 0 rfl rfl ?_
  refine j_iconst (q := 6) (v := (0 : Int32)) hx (dc kX12_readSame_0 3 rfl) (by decide) rfl ?_
  refine w_cVIW (q := 9) (As := [.int (0 : Int32)]) (st := []) hx (dc kX12_readSame_0 4 rfl) cf12 (by decide) rfl (cI _ my_X12_known lm_X12_216 (by decide)) vs_X12_known rfl (fun u hu => sX12_known _ _ _ _ _ _ hu) (fun e => ite_ne (by unfold mX12_known at e; exact e)) (Nat.zero_le _) rfl (fun v3 h4 => ?_)
  refine j_istore_n (q := 10) (i := 1) (l2 := [(0, vR x.2.2.2 x0)]) hx (dc kX12_readSame_0 5 rfl) rfl (hn 1 (by decide)) [0] rfl ⟨⟨show (0 : Nat) ≠ 1 by decide, Or.inr (vR_cat _ _)⟩, trivial⟩ rfl ?_
  refine j_aload_n (q := 11) hx (dc kX12_readSame_0 6 rfl) rfl 1 rfl rfl ?_
  refine j_iconst (q := 12) (v := (0 : Int32)) hx (dc kX12_readSame_0 7 rfl) (by decide) rfl ?_
  refine w_cVIW (q := 15) (As := [.int (0 : Int32)]) (st := []) hx (dc kX12_readSame_0 8 rfl) cf12 (by decide) rfl (cI _ my_X12_here lm_X12_182 (by decide)) vs_X12_here rfl (fun u hu => sX12_here _ _ _ _ _ _ hu) (fun e => ite_ne (by unfold mX12_here at e; exact e)) (Nat.zero_le _) rfl (fun v5 h6 => ?_)
  refine j_istore_n (q := 16) (i := 2) (l2 := [(1, .int v3), (0, vR x.2.2.2 x0)]) hx (dc kX12_readSame_0 9 rfl) rfl (hn 2 (by decide)) [0, 1] rfl ⟨⟨show (1 : Nat) ≠ 2 by decide, Or.inr rfl⟩, ⟨⟨show (0 : Nat) ≠ 2 by decide, Or.inl (show (0 : Nat) + 1 ≠ 2 by decide)⟩, trivial⟩⟩ rfl ?_
  refine j_iload_n (q := 17) hx (dc kX12_readSame_0 10 rfl) rfl 1 rfl rfl ?_
  refine j_iload_n (q := 18) hx (dc kX12_readSame_0 11 rfl) rfl 0 rfl rfl ?_
  refine j_icmp_eq (q := 21) (tgt := 37) hx (dc kX12_readSame_0 12 rfl) (by decide) Iff.rfl rfl ?_ ?_
  · exact j_sub [2, 1, 0] rfl (hb37 x0 v3 v5 h6)
  · refine j_aload_n (q := 22) hx (dc kX12_readSame_0 13 rfl) rfl 2 rfl rfl ?_
    refine w_gR (q := 25) hx (dc kX12_readSame_0 14 rfl) ff_X12_1 lk_X12_13 rfl (fun v22 => ?_)
    refine j_bipush (q := 27) (v := (61 : Int32)) hx (dc kX12_readSame_0 15 rfl) (by decide) rfl ?_
    refine j_iload_n (q := 28) hx (dc kX12_readSame_0 16 rfl) rfl 1 rfl rfl ?_
    refine j_iadd (q := 29) hx (dc kX12_readSame_0 17 rfl) rfl ?_
    refine j_ldI (q := 30) hx (dc kX12_readSame_0 18 rfl) rfl (fun v23 => ?_)
    refine j_iload_n (q := 31) hx (dc kX12_readSame_0 19 rfl) rfl 0 rfl rfl ?_
    refine w_cSIR (q := 34) (As := [.int v23, .int v5]) (st := []) hx (dc kX12_readSame_0 20 rfl) (cI _ my_X12_has lm_X12_239 (by decide)) st_X12_has rfl (fun u hu => sX12_has _ _ _ _ _ _ hu) (Nat.zero_le _) rfl (fun v24 => ?_)
    refine j_if_eq (q := 37) (tgt := 42) hx (dc kX12_readSame_0 21 rfl) (by decide) Iff.rfl rfl ?_ ?_
    · exact j_sub [2, 1, 0] rfl (hb42 x0 v3 v5 h6)
    · exact j_sub [2, 1, 0] rfl (hb37 x0 v3 v5 h6)

set_option maxHeartbeats 4000000 in
set_option maxRecDepth 100000 in
theorem sX12_readLimit (l : Launch) (w : Wd) (x0 : Nat) (h : Hp) (u : Hp) (hK : mX12_readLimit x0 h = some u) : M1 l w mi_X12_readLimit 5 [vR w x0] h u (none) := by
  refine M1.of (own := RX12) (T := fun _ r => r = u) hK (by decide +kernel) rfl (by first | (simp only [lg_lenR, lg_lenI, lg_lenL, lg_len0]; decide) | decide) (fun x hx hnl hhf hl hw hret hnm hQ h0e => ⟨?_, rfl⟩)
  subst hw
  subst hl
  have hR : Rt x h u (none) (none) := ⟨h0e, hhf, hret, hQ⟩
  have hn : ∀ i, i < 2 → i < x.2.2.1.1.1 := fun i hi => by rw [hnl]; exact hi
  have e0 : lv_args 0 [vR x.2.2.2 x0] = [(0, vR x.2.2.2 x0)] := by simp only [lv_argsR, lv_argsI, lv_argsL, lv_args0]
  rw [e0]
  have hb12 : ∀ (x0 : Nat) (h : Hp), J x 12 [(0, vR x.2.2.2 x0)] [] h (mX12_readLimit_b12 x0 h) (fun r => r = u) := by
    intro x0 h
    unfold mX12_readLimit_b12
    refine j_aload_n (q := 13) hx (dc kX12_readLimit_0 6 rfl) rfl 0 rfl rfl ?_
    refine w_cVVW (q := 16) (As := []) (st := []) hx (dc kX12_readLimit_0 7 rfl) cf12 (by decide) rfl (cI _ my_X12_passes lm_X12_169 (by decide)) vs_X12_passes rfl (fun u hu => sX12_passes _ _ _ _ _ hu) (fun e => ite_ne (by unfold mX12_passes at e; exact e)) (Nat.zero_le _) rfl (fun h3 => ?_)
    refine j_aload_n (q := 17) hx (dc kX12_readLimit_0 8 rfl) rfl 0 rfl rfl ?_
    refine j_iconst (q := 18) (v := (1 : Int32)) hx (dc kX12_readLimit_0 9 rfl) (by decide) rfl ?_
    refine j_sipush (q := 21) (v := (999 : Int32)) hx (dc kX12_readLimit_0 10 rfl) (by decide) rfl ?_
    refine w_cVIW (q := 24) (As := [.int (1 : Int32), .int (999 : Int32)]) (st := []) hx (dc kX12_readLimit_0 11 rfl) cf12 (by decide) rfl (cI _ my_X12_number lm_X12_219 (by decide)) vs_X12_number rfl (fun u hu => sX12_number _ _ _ _ _ _ _ hu) (fun e => ite_ne (by unfold mX12_number at e; exact e)) (Nat.zero_le _) rfl (fun v4 h5 => ?_)
    refine j_istore_n (q := 25) (i := 1) (l2 := [(0, vR x.2.2.2 x0)]) hx (dc kX12_readLimit_0 12 rfl) rfl (hn 1 (by decide)) [0] rfl ⟨⟨show (0 : Nat) ≠ 1 by decide, Or.inr (vR_cat _ _)⟩, trivial⟩ rfl ?_
    refine j_aload_n (q := 26) hx (dc kX12_readLimit_0 13 rfl) rfl 1 rfl rfl ?_
    refine j_aload_n (q := 27) hx (dc kX12_readLimit_0 14 rfl) rfl 1 rfl rfl ?_
    refine j_bipush (q := 29) (v := (59 : Int32)) hx (dc kX12_readLimit_0 15 rfl) (by decide) rfl ?_
    refine w_cVIR (q := 32) (As := [.int (59 : Int32)]) (st := [vR x.2.2.2 x0]) hx (dc kX12_readLimit_0 16 rfl) cf12 (by decide) rfl (cI _ my_X12_isSign lm_X12_195 (by decide)) vs_X12_isSign rfl (fun u hu => sX12_isSign _ _ _ _ _ _ hu) (fun e => ite_ne (by unfold mX12_isSign at e; exact e)) (sum_le (sum_R sum_nil) (by decide)) rfl (fun v6 => ?_)
    refine w_cVVW (q := 35) (As := [.int v6]) (st := []) hx (dc kX12_readLimit_0 17 rfl) cf12 (by decide) rfl (cI _ my_X12_must lm_X12_209 (by decide)) vs_X12_must rfl (fun u hu => sX12_must _ _ _ _ _ _ hu) (fun e => ite_ne (by unfold mX12_must at e; exact e)) (Nat.zero_le _) rfl (fun h9 => ?_)
    refine j_aload_n (q := 36) hx (dc kX12_readLimit_0 18 rfl) rfl 1 rfl rfl ?_
    refine w_gI (q := 39) hx (dc kX12_readLimit_0 19 rfl) ff_X12_17 lk_X12_126 rfl (fun v10 => ?_)
    refine j_if_neS (q := 42) (tgt := 54) hx (dc kX12_readLimit_0 20 rfl) (by decide) rfl ?_ ?_
    · exact r_vW hx hR (dc kX12_readLimit_0 29 rfl)
    · refine j_aload_n (q := 43) hx (dc kX12_readLimit_0 21 rfl) rfl 1 rfl rfl ?_
      refine j_iconst (q := 44) (v := (1 : Int32)) hx (dc kX12_readLimit_0 22 rfl) (by decide) rfl ?_
      refine w_sZ (q := 47) hx (dc kX12_readLimit_0 23 rfl) ff_X12_22 rfl lk_X12_243 (Or.inl rfl) rfl (fun h11 => ?_)
      refine j_aload_n (q := 48) hx (dc kX12_readLimit_0 24 rfl) rfl 1 rfl rfl ?_
      refine w_gR (q := 51) hx (dc kX12_readLimit_0 25 rfl) ff_X12_1 lk_X12_13 rfl (fun v12 => ?_)
      refine j_iconst (q := 52) (v := (5 : Int32)) hx (dc kX12_readLimit_0 26 rfl) (by decide) rfl ?_
      refine j_iload_n (q := 53) hx (dc kX12_readLimit_0 27 rfl) rfl 0 rfl rfl ?_
      refine w_stI (q := 54) hx (dc kX12_readLimit_0 28 rfl) rfl (fun h13 => ?_)
      exact r_vW hx hR (dc kX12_readLimit_0 29 rfl)
  unfold mX12_readLimit
  refine J.ckd fun hck => ?_
  refine j_aload_n (q := 1) hx (dc kX12_readLimit_0 0 rfl) rfl 0 rfl rfl ?_
  refine w_gI (q := 4) hx (dc kX12_readLimit_0 1 rfl) ff_X12_22 lk_X12_243 rfl (fun v1 => ?_)
  refine j_if_eq (q := 7) (tgt := 12) hx (dc kX12_readLimit_0 2 rfl) (by decide) Iff.rfl rfl ?_ ?_
  · exact hb12 x0 h
  · refine j_aload_n (q := 8) hx (dc kX12_readLimit_0 3 rfl) rfl 0 rfl rfl ?_
    refine j_iconst (q := 9) (v := (3 : Int32)) hx (dc kX12_readLimit_0 4 rfl) (by decide) rfl ?_
    refine w_cVVW (q := 12) (As := [.int (3 : Int32)]) (st := []) hx (dc kX12_readLimit_0 5 rfl) cf12 (by decide) rfl (cI _ my_X12_wrong lm_X12_165 (by decide)) vs_X12_wrong rfl (fun u hu => sX12_wrong _ _ _ _ _ _ hu) (fun e => ite_ne (by unfold mX12_wrong at e; exact e)) (Nat.zero_le _) rfl (fun h15 => ?_)
    exact hb12 x0 h15

set_option maxHeartbeats 4000000 in
set_option maxRecDepth 100000 in
theorem sX12_readLine (l : Launch) (w : Wd) (x0 : Nat) (h : Hp) (u : Hp) (hK : mX12_readLine x0 h = some u) : M1 l w mi_X12_readLine 53 [vR w x0] h u (none) := by
  refine M1.of (own := RX12) (T := fun _ r => r = u) hK (by decide +kernel) rfl (by first | (simp only [lg_lenR, lg_lenI, lg_lenL, lg_len0]; decide) | decide) (fun x hx hnl hhf hl hw hret hnm hQ h0e => ⟨?_, rfl⟩)
  subst hw
  subst hl
  have hR : Rt x h u (none) (none) := ⟨h0e, hhf, hret, hQ⟩
  have hn : ∀ i, i < 1 → i < x.2.2.1.1.1 := fun i hi => by rw [hnl]; exact hi
  have e0 : lv_args 0 [vR x.2.2.2 x0] = [(0, vR x.2.2.2 x0)] := by simp only [lv_argsR, lv_argsI, lv_argsL, lv_args0]
  rw [e0]
  have hb117 : ∀ (x0 : Nat) (h : Hp), J x 117 [(0, vR x.2.2.2 x0)] [] h (mX12_readLine_b117 x0 h) (fun r => r = u) := by
    intro x0 h
    unfold mX12_readLine_b117
    refine j_aload_n (q := 118) hx (dc kX12_readLine_0 52 rfl) rfl 0 rfl rfl ?_
    refine w_gR (q := 121) hx (dc kX12_readLine_0 53 rfl) ff_X12_1 lk_X12_13 rfl (fun v17 => ?_)
    refine j_iconst (q := 122) (v := (0 : Int32)) hx (dc kX12_readLine_0 54 rfl) (by decide) rfl ?_
    refine j_dup2_11 (q := 123) hx (dc kX12_readLine_0 55 rfl) rfl (vR_cat _ _) rfl ?_
    refine j_ldI (q := 124) hx (dc kX12_readLine_0 56 rfl) rfl (fun v18 => ?_)
    refine j_iconst (q := 125) (v := (1 : Int32)) hx (dc kX12_readLine_0 57 rfl) (by decide) rfl ?_
    refine j_iadd (q := 126) hx (dc kX12_readLine_0 58 rfl) rfl ?_
    refine w_stI (q := 127) hx (dc kX12_readLine_0 59 rfl) rfl (fun h19 => ?_)
    exact r_vW hx hR (dc kX12_readLine_0 60 rfl)
  unfold mX12_readLine
  refine J.ckd fun hck => ?_
  refine j_aload_n (q := 1) hx (dc kX12_readLine_0 0 rfl) rfl 0 rfl rfl ?_
  refine j_ldcS (a := 2) (q := 3) hx (show (_, _, "fact", _) ∈ strs0 by decide +kernel) (dc kX12_readLine_0 1 rfl) rfl ?_
  refine w_cVIR (q := 6) (As := [vR x.2.2.2 12]) (st := []) hx (dc kX12_readLine_0 2 rfl) cf12 (by decide) rfl (cI _ my_X12_isWord lm_X12_135 (by decide)) vs_X12_isWord rfl (fun u hu => sX12_isWord _ _ _ _ _ _ hu) (fun e => ite_ne (by unfold mX12_isWord at e; exact e)) (Nat.zero_le _) rfl (fun v1 => ?_)
  refine j_if_eq (q := 9) (tgt := 16) hx (dc kX12_readLine_0 3 rfl) (by decide) Iff.rfl rfl ?_ ?_
  · refine j_aload_n (q := 17) hx (dc kX12_readLine_0 7 rfl) rfl 0 rfl rfl ?_
    refine j_ldcS (a := 3) (q := 19) hx (show (_, _, "never", _) ∈ strs0 by decide +kernel) (dc kX12_readLine_0 8 rfl) rfl ?_
    refine w_cVIR (q := 22) (As := [vR x.2.2.2 13]) (st := []) hx (dc kX12_readLine_0 9 rfl) cf12 (by decide) rfl (cI _ my_X12_isWord lm_X12_135 (by decide)) vs_X12_isWord rfl (fun u hu => sX12_isWord _ _ _ _ _ _ hu) (fun e => ite_ne (by unfold mX12_isWord at e; exact e)) (Nat.zero_le _) rfl (fun v3 => ?_)
    refine j_if_eq (q := 25) (tgt := 32) hx (dc kX12_readLine_0 10 rfl) (by decide) Iff.rfl rfl ?_ ?_
    · refine j_aload_n (q := 33) hx (dc kX12_readLine_0 14 rfl) rfl 0 rfl rfl ?_
      refine j_ldcS (a := 4) (q := 35) hx (show (_, _, "count", _) ∈ strs0 by decide +kernel) (dc kX12_readLine_0 15 rfl) rfl ?_
      refine w_cVIR (q := 38) (As := [vR x.2.2.2 14]) (st := []) hx (dc kX12_readLine_0 16 rfl) cf12 (by decide) rfl (cI _ my_X12_isWord lm_X12_135 (by decide)) vs_X12_isWord rfl (fun u hu => sX12_isWord _ _ _ _ _ _ hu) (fun e => ite_ne (by unfold mX12_isWord at e; exact e)) (Nat.zero_le _) rfl (fun v5 => ?_)
      refine j_if_eq (q := 41) (tgt := 48) hx (dc kX12_readLine_0 17 rfl) (by decide) Iff.rfl rfl ?_ ?_
      · refine j_aload_n (q := 49) hx (dc kX12_readLine_0 21 rfl) rfl 0 rfl rfl ?_
        refine j_ldcS (a := 8) (q := 51) hx (show (_, _, "plea", _) ∈ strs0 by decide +kernel) (dc kX12_readLine_0 22 rfl) rfl ?_
        refine w_cVIR (q := 54) (As := [vR x.2.2.2 18]) (st := []) hx (dc kX12_readLine_0 23 rfl) cf12 (by decide) rfl (cI _ my_X12_isWord lm_X12_135 (by decide)) vs_X12_isWord rfl (fun u hu => sX12_isWord _ _ _ _ _ _ hu) (fun e => ite_ne (by unfold mX12_isWord at e; exact e)) (Nat.zero_le _) rfl (fun v7 => ?_)
        refine j_if_eq (q := 57) (tgt := 64) hx (dc kX12_readLine_0 24 rfl) (by decide) Iff.rfl rfl ?_ ?_
        · refine j_aload_n (q := 65) hx (dc kX12_readLine_0 28 rfl) rfl 0 rfl rfl ?_
          refine j_ldcS (a := 9) (q := 67) hx (show (_, _, "says", _) ∈ strs0 by decide +kernel) (dc kX12_readLine_0 29 rfl) rfl ?_
          refine w_cVIR (q := 70) (As := [vR x.2.2.2 19]) (st := []) hx (dc kX12_readLine_0 30 rfl) cf12 (by decide) rfl (cI _ my_X12_isWord lm_X12_135 (by decide)) vs_X12_isWord rfl (fun u hu => sX12_isWord _ _ _ _ _ _ hu) (fun e => ite_ne (by unfold mX12_isWord at e; exact e)) (Nat.zero_le _) rfl (fun v9 => ?_)
          refine j_if_eq (q := 73) (tgt := 80) hx (dc kX12_readLine_0 31 rfl) (by decide) Iff.rfl rfl ?_ ?_
          · refine j_aload_n (q := 81) hx (dc kX12_readLine_0 35 rfl) rfl 0 rfl rfl ?_
            refine j_ldcS (a := 10) (q := 83) hx (show (_, _, "same", _) ∈ strs0 by decide +kernel) (dc kX12_readLine_0 36 rfl) rfl ?_
            refine w_cVIR (q := 86) (As := [vR x.2.2.2 20]) (st := []) hx (dc kX12_readLine_0 37 rfl) cf12 (by decide) rfl (cI _ my_X12_isWord lm_X12_135 (by decide)) vs_X12_isWord rfl (fun u hu => sX12_isWord _ _ _ _ _ _ hu) (fun e => ite_ne (by unfold mX12_isWord at e; exact e)) (Nat.zero_le _) rfl (fun v11 => ?_)
            refine j_if_eq (q := 89) (tgt := 96) hx (dc kX12_readLine_0 38 rfl) (by decide) Iff.rfl rfl ?_ ?_
            · refine j_aload_n (q := 97) hx (dc kX12_readLine_0 42 rfl) rfl 0 rfl rfl ?_
              refine j_ldcS (a := 11) (q := 99) hx (show (_, _, "limit", _) ∈ strs0 by decide +kernel) (dc kX12_readLine_0 43 rfl) rfl ?_
              refine w_cVIR (q := 102) (As := [vR x.2.2.2 21]) (st := []) hx (dc kX12_readLine_0 44 rfl) cf12 (by decide) rfl (cI _ my_X12_isWord lm_X12_135 (by decide)) vs_X12_isWord rfl (fun u hu => sX12_isWord _ _ _ _ _ _ hu) (fun e => ite_ne (by unfold mX12_isWord at e; exact e)) (Nat.zero_le _) rfl (fun v13 => ?_)
              refine j_if_eq (q := 105) (tgt := 112) hx (dc kX12_readLine_0 45 rfl) (by decide) Iff.rfl rfl ?_ ?_
              · refine j_aload_n (q := 113) hx (dc kX12_readLine_0 49 rfl) rfl 0 rfl rfl ?_
                refine j_iconst (q := 114) (v := (1 : Int32)) hx (dc kX12_readLine_0 50 rfl) (by decide) rfl ?_
                refine w_cVVW (q := 117) (As := [.int (1 : Int32)]) (st := []) hx (dc kX12_readLine_0 51 rfl) cf12 (by decide) rfl (cI _ my_X12_wrong lm_X12_165 (by decide)) vs_X12_wrong rfl (fun u hu => sX12_wrong _ _ _ _ _ _ hu) (fun e => ite_ne (by unfold mX12_wrong at e; exact e)) (Nat.zero_le _) rfl (fun h16 => ?_)
                exact hb117 x0 h16
              · refine j_aload_n (q := 106) hx (dc kX12_readLine_0 46 rfl) rfl 0 rfl rfl ?_
                refine w_cVVW (q := 109) (As := []) (st := []) hx (dc kX12_readLine_0 47 rfl) cf12 (by decide) rfl (cI _ my_X12_readLimit lm_X12_265 (by decide)) vs_X12_readLimit rfl (fun u hu => sX12_readLimit _ _ _ _ _ hu) (fun e => ite_ne (by unfold mX12_readLimit at e; exact e)) (Nat.zero_le _) rfl (fun h21 => ?_)
                refine j_goto (q := 117) hx (dc kX12_readLine_0 48 rfl) (by decide) ?_
                exact hb117 x0 h21
            · refine j_aload_n (q := 90) hx (dc kX12_readLine_0 39 rfl) rfl 0 rfl rfl ?_
              refine w_cVVW (q := 93) (As := []) (st := []) hx (dc kX12_readLine_0 40 rfl) cf12 (by decide) rfl (cI _ my_X12_readSame lm_X12_262 (by decide)) vs_X12_readSame rfl (fun u hu => sX12_readSame _ _ _ _ _ hu) (fun e => ite_ne (by unfold mX12_readSame at e; exact e)) (Nat.zero_le _) rfl (fun h23 => ?_)
              refine j_goto (q := 117) hx (dc kX12_readLine_0 41 rfl) (by decide) ?_
              exact hb117 x0 h23
          · refine j_aload_n (q := 74) hx (dc kX12_readLine_0 32 rfl) rfl 0 rfl rfl ?_
            refine w_cVVW (q := 77) (As := []) (st := []) hx (dc kX12_readLine_0 33 rfl) cf12 (by decide) rfl (cI _ my_X12_readSays lm_X12_259 (by decide)) vs_X12_readSays rfl (fun u hu => sX12_readSays _ _ _ _ _ hu) (fun e => ite_ne (by unfold mX12_readSays at e; exact e)) (Nat.zero_le _) rfl (fun h25 => ?_)
            refine j_goto (q := 117) hx (dc kX12_readLine_0 34 rfl) (by decide) ?_
            exact hb117 x0 h25
        · refine j_aload_n (q := 58) hx (dc kX12_readLine_0 25 rfl) rfl 0 rfl rfl ?_
          refine w_cVVW (q := 61) (As := []) (st := []) hx (dc kX12_readLine_0 26 rfl) cf12 (by decide) rfl (cI _ my_X12_readPlea lm_X12_256 (by decide)) vs_X12_readPlea rfl (fun u hu => sX12_readPlea _ _ _ _ _ hu) (fun e => ite_ne (by unfold mX12_readPlea at e; exact e)) (Nat.zero_le _) rfl (fun h27 => ?_)
          refine j_goto (q := 117) hx (dc kX12_readLine_0 27 rfl) (by decide) ?_
          exact hb117 x0 h27
      · refine j_aload_n (q := 42) hx (dc kX12_readLine_0 18 rfl) rfl 0 rfl rfl ?_
        refine w_cVVW (q := 45) (As := []) (st := []) hx (dc kX12_readLine_0 19 rfl) cf12 (by decide) rfl (cI _ my_X12_readCount lm_X12_253 (by decide)) vs_X12_readCount rfl (fun u hu => sX12_readCount _ _ _ _ _ hu) (fun e => ite_ne (by unfold mX12_readCount at e; exact e)) (Nat.zero_le _) rfl (fun h29 => ?_)
        refine j_goto (q := 117) hx (dc kX12_readLine_0 20 rfl) (by decide) ?_
        exact hb117 x0 h29
    · refine j_aload_n (q := 26) hx (dc kX12_readLine_0 11 rfl) rfl 0 rfl rfl ?_
      refine w_cVVW (q := 29) (As := []) (st := []) hx (dc kX12_readLine_0 12 rfl) cf12 (by decide) rfl (cI _ my_X12_readNever lm_X12_250 (by decide)) vs_X12_readNever rfl (fun u hu => sX12_readNever _ _ _ _ _ hu) (fun e => ite_ne (by unfold mX12_readNever at e; exact e)) (Nat.zero_le _) rfl (fun h31 => ?_)
      refine j_goto (q := 117) hx (dc kX12_readLine_0 13 rfl) (by decide) ?_
      exact hb117 x0 h31
  · refine j_aload_n (q := 10) hx (dc kX12_readLine_0 4 rfl) rfl 0 rfl rfl ?_
    refine w_cVVW (q := 13) (As := []) (st := []) hx (dc kX12_readLine_0 5 rfl) cf12 (by decide) rfl (cI _ my_X12_readFact lm_X12_247 (by decide)) vs_X12_readFact rfl (fun u hu => sX12_readFact _ _ _ _ _ hu) (fun e => ite_ne (by unfold mX12_readFact at e; exact e)) (Nat.zero_le _) rfl (fun h33 => ?_)
    refine j_goto (q := 117) hx (dc kX12_readLine_0 6 rfl) (by decide) ?_
    exact hb117 x0 h33

set_option maxHeartbeats 4000000 in
set_option maxRecDepth 100000 in
theorem sX12_takes (l : Launch) (w : Wd) (x0 : Nat) (h : Hp) (u : Hp) (hK : mX12_takes x0 h = some u) : M1 l w mi_X12_takes 3 [vR w x0] h u (none) := by
  refine M1.of (own := RX12) (T := fun _ r => r = u) hK (by decide +kernel) rfl (by first | (simp only [lg_lenR, lg_lenI, lg_lenL, lg_len0]; decide) | decide) (fun x hx hnl hhf hl hw hret hnm hQ h0e => ⟨?_, rfl⟩)
  subst hw
  subst hl
  have hR : Rt x h u (none) (none) := ⟨h0e, hhf, hret, hQ⟩
  have hn : ∀ i, i < 1 → i < x.2.2.1.1.1 := fun i hi => by rw [hnl]; exact hi
  have e0 : lv_args 0 [vR x.2.2.2 x0] = [(0, vR x.2.2.2 x0)] := by simp only [lv_argsR, lv_argsI, lv_argsL, lv_args0]
  rw [e0]
  unfold mX12_takes
  refine J.ckd fun hck => ?_
  refine j_aload_n (q := 1) hx (dc kX12_takes_0 0 rfl) rfl 0 rfl rfl ?_
  refine j_aload_n (q := 2) hx (dc kX12_takes_0 1 rfl) rfl 0 rfl rfl ?_
  refine w_gI (q := 5) hx (dc kX12_takes_0 2 rfl) ff_X12_10 lk_X12_82 rfl (fun v1 => ?_)
  refine w_sI (q := 8) hx (dc kX12_takes_0 3 rfl) ff_X12_11 rfl lk_X12_89 (Or.inl rfl) rfl (fun h2 => ?_)
  refine j_aload_n (q := 9) hx (dc kX12_takes_0 4 rfl) rfl 0 rfl rfl ?_
  refine j_iconst (q := 10) (v := (0 : Int32)) hx (dc kX12_takes_0 5 rfl) (by decide) rfl ?_
  refine w_sI (q := 13) hx (dc kX12_takes_0 6 rfl) ff_X12_10 rfl lk_X12_82 (Or.inl rfl) rfl (fun h3 => ?_)
  refine j_aload_n (q := 14) hx (dc kX12_takes_0 7 rfl) rfl 0 rfl rfl ?_
  refine j_iconst (q := 15) (v := (0 : Int32)) hx (dc kX12_takes_0 8 rfl) (by decide) rfl ?_
  refine w_sI (q := 18) hx (dc kX12_takes_0 9 rfl) ff_X12_12 rfl lk_X12_92 (Or.inl rfl) rfl (fun h4 => ?_)
  refine j_aload_n (q := 19) hx (dc kX12_takes_0 10 rfl) rfl 0 rfl rfl ?_
  refine j_iconst (q := 20) (v := (0 : Int32)) hx (dc kX12_takes_0 11 rfl) (by decide) rfl ?_
  refine w_sI (q := 23) hx (dc kX12_takes_0 12 rfl) ff_X12_17 rfl lk_X12_126 (Or.inl rfl) rfl (fun h5 => ?_)
  refine j_aload_n (q := 24) hx (dc kX12_takes_0 13 rfl) rfl 0 rfl rfl ?_
  refine j_iconst (q := 25) (v := (-1 : Int32)) hx (dc kX12_takes_0 14 rfl) (by decide) rfl ?_
  refine w_sI (q := 28) hx (dc kX12_takes_0 15 rfl) ff_X12_18 rfl lk_X12_159 (Or.inl rfl) rfl (fun h6 => ?_)
  refine j_aload_n (q := 29) hx (dc kX12_takes_0 16 rfl) rfl 0 rfl rfl ?_
  refine w_cVVW (q := 32) (As := []) (st := []) hx (dc kX12_takes_0 17 rfl) cf12 (by decide) rfl (cI _ my_X12_next lm_X12_162 (by decide)) vs_X12_next rfl (fun u hu => sX12_next _ _ _ _ _ hu) (fun e => ite_ne (by unfold mX12_next at e; exact e)) (Nat.zero_le _) rfl (fun h8 => ?_)
  exact r_vW hx hR (dc kX12_takes_0 18 rfl)

set_option maxHeartbeats 4000000 in
set_option maxRecDepth 100000 in
theorem sX12_isRead (l : Launch) (w : Wd) (x0 : Nat) (h : Hp) (u : (Int32 × Hp)) (hK : mX12_isRead x0 h = some u) : M1 l w mi_X12_isRead 1 [vR w x0] h u.2 (some (.int u.1)) := by
  refine M1.of (own := RX12) (T := fun _ r => r = u) hK (by decide +kernel) rfl (by first | (simp only [lg_lenR, lg_lenI, lg_lenL, lg_len0]; decide) | decide) (fun x hx hnl hhf hl hw hret hnm hQ h0e => ⟨?_, rfl⟩)
  subst hw
  subst hl
  have hR : Rt x h u.2 (some (.int u.1)) ((some .boolean)) := ⟨h0e, hhf, hret, hQ⟩
  have hn : ∀ i, i < 1 → i < x.2.2.1.1.1 := fun i hi => by rw [hnl]; exact hi
  have e0 : lv_args 0 [vR x.2.2.2 x0] = [(0, vR x.2.2.2 x0)] := by simp only [lv_argsR, lv_argsI, lv_argsL, lv_args0]
  rw [e0]
  have hb24 : ∀ (x0 : Nat) (t0 : Nat) (t1 : Int32) (h : Hp), J x 24 [(0, vR x.2.2.2 x0)] [.int t1, vR x.2.2.2 t0] h (mX12_isRead_b24 x0 t0 t1 h) (fun r => r = u) := by
    intro x0 t0 t1 h
    unfold mX12_isRead_b24
    refine w_sI (q := 27) hx (dc kX12_isRead_0 12 rfl) ff_X12_20 rfl lk_X12_39 (Or.inl rfl) rfl (fun h5 => ?_)
    refine j_aload_n (q := 28) hx (dc kX12_isRead_0 13 rfl) rfl 0 rfl rfl ?_
    refine w_gI (q := 31) hx (dc kX12_isRead_0 14 rfl) ff_X12_17 lk_X12_126 rfl (fun v6 => ?_)
    refine j_if_neS (q := 34) (tgt := 38) hx (dc kX12_isRead_0 15 rfl) (by decide) rfl ?_ ?_
    · refine j_iconst (q := 39) (v := (0 : Int32)) hx (dc kX12_isRead_0 18 rfl) (by decide) rfl ?_
      exact r_cW hx (Or.inl rfl) hR (dc kX12_isRead_0 19 rfl)
    · refine j_iconst (q := 35) (v := (1 : Int32)) hx (dc kX12_isRead_0 16 rfl) (by decide) rfl ?_
      refine j_goto (q := 39) hx (dc kX12_isRead_0 17 rfl) (by decide) ?_
      exact r_cW hx (Or.inr rfl) hR (dc kX12_isRead_0 19 rfl)
  unfold mX12_isRead
  refine J.ckd fun hck => ?_
  refine j_aload_n (q := 1) hx (dc kX12_isRead_0 0 rfl) rfl 0 rfl rfl ?_
  refine j_aload_n (q := 2) hx (dc kX12_isRead_0 1 rfl) rfl 0 rfl rfl ?_
  refine w_gI (q := 5) hx (dc kX12_isRead_0 2 rfl) ff_X12_17 lk_X12_126 rfl (fun v1 => ?_)
  refine w_sI (q := 8) hx (dc kX12_isRead_0 3 rfl) ff_X12_19 rfl lk_X12_268 (Or.inl rfl) rfl (fun h2 => ?_)
  refine j_aload_n (q := 9) hx (dc kX12_isRead_0 4 rfl) rfl 0 rfl rfl ?_
  refine j_aload_n (q := 10) hx (dc kX12_isRead_0 5 rfl) rfl 0 rfl rfl ?_
  refine w_gI (q := 13) hx (dc kX12_isRead_0 6 rfl) ff_X12_17 lk_X12_126 rfl (fun v3 => ?_)
  refine j_if_neS (q := 16) (tgt := 20) hx (dc kX12_isRead_0 7 rfl) (by decide) rfl ?_ ?_
  · refine j_aload_n (q := 21) hx (dc kX12_isRead_0 10 rfl) rfl 0 rfl rfl ?_
    refine w_gI (q := 24) hx (dc kX12_isRead_0 11 rfl) ff_X12_18 lk_X12_159 rfl (fun v4 => ?_)
    exact hb24 x0 x0 v4 h2
  · refine j_iconst (q := 17) (v := (-1 : Int32)) hx (dc kX12_isRead_0 8 rfl) (by decide) rfl ?_
    refine j_goto (q := 24) hx (dc kX12_isRead_0 9 rfl) (by decide) ?_
    exact hb24 x0 x0 (-1 : Int32) h2

set_option maxHeartbeats 4000000 in
set_option maxRecDepth 100000 in
theorem sX12_puts (l : Launch) (w : Wd) (x0 : Nat) (x1 : Int32) (x2 : Int32) (x3 : Int32) (h : Hp) (u : Hp) (hK : mX12_puts x0 x1 x2 x3 h = some u) : M1 l w mi_X12_puts 1 [vR w x0, .int x1, .int x2, .int x3] h u (none) := by
  refine M1.of (own := RX12) (T := fun _ r => r = u) hK (by decide +kernel) rfl (by first | (simp only [lg_lenR, lg_lenI, lg_lenL, lg_len0]; decide) | decide) (fun x hx hnl hhf hl hw hret hnm hQ h0e => ⟨?_, rfl⟩)
  subst hw
  subst hl
  have hR : Rt x h u (none) (none) := ⟨h0e, hhf, hret, hQ⟩
  have hn : ∀ i, i < 4 → i < x.2.2.1.1.1 := fun i hi => by rw [hnl]; exact hi
  have e0 : lv_args 0 [vR x.2.2.2 x0, .int x1, .int x2, .int x3] = [(0, vR x.2.2.2 x0), (1, .int x1), (2, .int x2), (3, .int x3)] := by simp only [lv_argsR, lv_argsI, lv_argsL, lv_args0]
  rw [e0]
  unfold mX12_puts
  refine J.ckd fun hck => ?_
  refine j_aload_n (q := 1) hx (dc kX12_puts_0 0 rfl) rfl 0 rfl rfl ?_
  refine w_gR (q := 4) hx (dc kX12_puts_0 1 rfl) ff_X12_4 lk_X12_23 rfl (fun v1 => ?_)
  refine j_bipush (q := 6) (v := (19 : Int32)) hx (dc kX12_puts_0 2 rfl) (by decide) rfl ?_
  refine j_bipush (q := 8) (v := (8 : Int32)) hx (dc kX12_puts_0 3 rfl) (by decide) rfl ?_
  refine j_iload_n (q := 9) hx (dc kX12_puts_0 4 rfl) rfl 1 rfl rfl ?_
  refine j_imul (q := 10) hx (dc kX12_puts_0 5 rfl) rfl ?_
  refine j_iadd (q := 11) hx (dc kX12_puts_0 6 rfl) rfl ?_
  refine j_iload_n (q := 12) hx (dc kX12_puts_0 7 rfl) rfl 2 rfl rfl ?_
  refine j_iadd (q := 13) hx (dc kX12_puts_0 8 rfl) rfl ?_
  refine j_iload_n (q := 14) hx (dc kX12_puts_0 9 rfl) rfl 3 rfl rfl ?_
  refine w_stI (q := 15) hx (dc kX12_puts_0 10 rfl) rfl (fun h2 => ?_)
  exact r_vW hx hR (dc kX12_puts_0 11 rfl)

set_option maxHeartbeats 4000000 in
set_option maxRecDepth 100000 in
theorem sX12_begins (l : Launch) (w : Wd) (x0 : Nat) (h : Hp) (u : Hp) (hK : mX12_begins x0 h = some u) : M1 l w mi_X12_begins 5 [vR w x0] h u (none) := by
  refine M1.of (own := RX12) (T := fun _ r => r = u) hK (by decide +kernel) rfl (by first | (simp only [lg_lenR, lg_lenI, lg_lenL, lg_len0]; decide) | decide) (fun x hx hnl hhf hl hw hret hnm hQ h0e => ⟨?_, rfl⟩)
  subst hw
  subst hl
  have hR : Rt x h u (none) (none) := ⟨h0e, hhf, hret, hQ⟩
  have hn : ∀ i, i < 2 → i < x.2.2.1.1.1 := fun i hi => by rw [hnl]; exact hi
  have e0 : lv_args 0 [vR x.2.2.2 x0] = [(0, vR x.2.2.2 x0)] := by simp only [lv_argsR, lv_argsI, lv_argsL, lv_args0]
  rw [e0]
  have hb36 : ∀ (x0 : Nat) (x1 : Int32) (h : Hp), J x 36 [(0, vR x.2.2.2 x0), (1, .int x1)] [] h (mX12_begins_l36 x0 x1 h) (fun r => r = u) := by
    intro x0 x1 h
    have hB : ∀ (x1 : Int32) (h : Hp), J x 36 [(0, vR x.2.2.2 x0), (1, .int x1)] [] h (mX12_begins_l36f x0 x1 h) (TL (S := (Int32 × Hp)) x 36 (fun s => [(0, vR x.2.2.2 x0), (1, .int s.1)]) [] (fun s => s.2) (fun r => r = u)) := by
      intro x1 h
      unfold mX12_begins_l36f
      refine j_iload_n (q := 37) hx (dc kX12_begins_0 22 rfl) rfl 1 rfl rfl ?_
      refine j_aload_n (q := 38) hx (dc kX12_begins_0 23 rfl) rfl 0 rfl rfl ?_
      refine w_gR (q := 41) hx (dc kX12_begins_0 24 rfl) ff_X12_0 lk_X12_7 rfl (fun v5 => ?_)
      refine j_iconst (q := 42) (v := (2 : Int32)) hx (dc kX12_begins_0 25 rfl) (by decide) rfl ?_
      refine j_ldI (q := 43) hx (dc kX12_begins_0 26 rfl) rfl (fun v6 => ?_)
      refine j_icmp_geS (q := 46) (tgt := 127) hx (dc kX12_begins_0 27 rfl) (by decide) rfl ?_ ?_
      · refine j_exit ?_
        refine j_aload_n (q := 128) hx (dc kX12_begins_1 16 rfl) rfl 0 rfl rfl ?_
        refine j_iconst (q := 129) (v := (0 : Int32)) hx (dc kX12_begins_1 17 rfl) (by decide) rfl ?_
        refine w_sI (q := 132) hx (dc kX12_begins_1 18 rfl) ff_X12_8 rfl lk_X12_287 (Or.inl rfl) rfl (fun h7 => ?_)
        refine j_aload_n (q := 133) hx (dc kX12_begins_1 19 rfl) rfl 0 rfl rfl ?_
        refine w_gR (q := 136) hx (dc kX12_begins_1 20 rfl) ff_X12_7 lk_X12_32 rfl (fun v8 => ?_)
        refine j_iconst (q := 137) (v := (0 : Int32)) hx (dc kX12_begins_1 21 rfl) (by decide) rfl ?_
        refine j_iconst (q := 138) (v := (0 : Int32)) hx (dc kX12_begins_1 22 rfl) (by decide) rfl ?_
        refine w_stZ (q := 139) hx (dc kX12_begins_1 23 rfl) rfl (fun h9 => ?_)
        refine j_aload_n (q := 140) hx (dc kX12_begins_1 24 rfl) rfl 0 rfl rfl ?_
        refine w_gR (q := 143) hx (dc kX12_begins_1 25 rfl) ff_X12_7 lk_X12_32 rfl (fun v10 => ?_)
        refine j_iconst (q := 144) (v := (1 : Int32)) hx (dc kX12_begins_1 26 rfl) (by decide) rfl ?_
        refine j_iconst (q := 145) (v := (0 : Int32)) hx (dc kX12_begins_1 27 rfl) (by decide) rfl ?_
        refine w_stZ (q := 146) hx (dc kX12_begins_1 28 rfl) rfl (fun h11 => ?_)
        refine j_aload_n (q := 147) hx (dc kX12_begins_1 29 rfl) rfl 0 rfl rfl ?_
        refine j_iconst (q := 148) (v := (0 : Int32)) hx (dc kX12_begins_1 30 rfl) (by decide) rfl ?_
        refine w_sZ (q := 151) hx (dc kX12_begins_1 31 rfl) ff_X12_39 rfl lk_X12_290 (Or.inl rfl) rfl (fun h12 => ?_)
        refine j_aload_n (q := 152) hx (dc kX12_begins_1 32 rfl) rfl 0 rfl rfl ?_
        refine w_cVVW (q := 155) (As := []) (st := []) hx (dc kX12_begins_1 33 rfl) cf12 (by decide) rfl (cI _ my_X12_laysTables lm_X12_79 (by decide)) vs_X12_laysTables rfl (fun u hu => sX12_laysTables _ _ _ _ _ hu) (fun e => ite_ne (by unfold mX12_laysTables at e; exact e)) (Nat.zero_le _) rfl (fun h14 => ?_)
        exact r_vW hx hR (dc kX12_begins_1 34 rfl)
      · refine j_aload_n (q := 47) hx (dc kX12_begins_0 28 rfl) rfl 0 rfl rfl ?_
        refine j_iload_n (q := 48) hx (dc kX12_begins_0 29 rfl) rfl 1 rfl rfl ?_
        refine j_iconst (q := 49) (v := (0 : Int32)) hx (dc kX12_begins_0 30 rfl) (by decide) rfl ?_
        refine j_iload_n (q := 50) hx (dc kX12_begins_0 31 rfl) rfl 1 rfl rfl ?_
        refine w_cVVW (q := 53) (As := [.int x1, .int (0 : Int32), .int x1]) (st := []) hx (dc kX12_begins_0 32 rfl) cf12 (by decide) rfl (cI _ my_X12_puts lm_X12_283 (by decide)) vs_X12_puts rfl (fun u hu => sX12_puts _ _ _ _ _ _ _ _ hu) (fun e => ite_ne (by unfold mX12_puts at e; exact e)) (Nat.zero_le _) rfl (fun h16 => ?_)
        refine j_aload_n (q := 54) hx (dc kX12_begins_0 33 rfl) rfl 0 rfl rfl ?_
        refine j_iload_n (q := 55) hx (dc kX12_begins_0 34 rfl) rfl 1 rfl rfl ?_
        refine j_iconst (q := 56) (v := (2 : Int32)) hx (dc kX12_begins_0 35 rfl) (by decide) rfl ?_
        refine j_aload_n (q := 57) hx (dc kX12_begins_0 36 rfl) rfl 0 rfl rfl ?_
        refine w_gR (q := 60) hx (dc kX12_begins_0 37 rfl) ff_X12_0 lk_X12_7 rfl (fun v17 => ?_)
        refine j_bipush (q := 62) (v := (16 : Int32)) hx (dc kX12_begins_0 38 rfl) (by decide) rfl ?_
        refine j_iload_n (q := 63) hx (dc kX12_begins_0 39 rfl) rfl 1 rfl rfl ?_
        refine j_iadd (q := 64) hx (dc kX12_begins_0 40 rfl) rfl ?_
        refine j_ldI (q := 65) hx (dc kX12_begins_0 41 rfl) rfl (fun v18 => ?_)
        refine w_cVVW (q := 68) (As := [.int x1, .int (2 : Int32), .int v18]) (st := []) hx (dc kX12_begins_0 42 rfl) cf12 (by decide) rfl (cI _ my_X12_puts lm_X12_283 (by decide)) vs_X12_puts rfl (fun u hu => sX12_puts _ _ _ _ _ _ _ _ hu) (fun e => ite_ne (by unfold mX12_puts at e; exact e)) (Nat.zero_le _) rfl (fun h20 => ?_)
        refine j_aload_n (q := 69) hx (dc kX12_begins_0 43 rfl) rfl 0 rfl rfl ?_
        refine j_iload_n (q := 70) hx (dc kX12_begins_0 44 rfl) rfl 1 rfl rfl ?_
        refine j_iconst (q := 71) (v := (3 : Int32)) hx (dc kX12_begins_0 45 rfl) (by decide) rfl ?_
        refine j_aload_n (q := 72) hx (dc kX12_begins_0 46 rfl) rfl 0 rfl rfl ?_
        refine w_gR (q := 75) hx (dc kX12_begins_0 47 rfl) ff_X12_0 lk_X12_7 rfl (fun v21 => ?_)
        refine j_bipush (q := 77) (v := (21 : Int32)) hx (dc kX12_begins_0 48 rfl) (by decide) rfl ?_
        refine j_iload_n (q := 78) hx (dc kX12_begins_0 49 rfl) rfl 1 rfl rfl ?_
        refine j_iadd (q := 79) hx (dc kX12_begins_0 50 rfl) rfl ?_
        refine j_ldI (q := 80) hx (dc kX12_begins_0 51 rfl) rfl (fun v22 => ?_)
        refine w_cVVW (q := 83) (As := [.int x1, .int (3 : Int32), .int v22]) (st := []) hx (dc kX12_begins_0 52 rfl) cf12 (by decide) rfl (cI _ my_X12_puts lm_X12_283 (by decide)) vs_X12_puts rfl (fun u hu => sX12_puts _ _ _ _ _ _ _ _ hu) (fun e => ite_ne (by unfold mX12_puts at e; exact e)) (Nat.zero_le _) rfl (fun h24 => ?_)
        refine j_aload_n (q := 84) hx (dc kX12_begins_0 53 rfl) rfl 0 rfl rfl ?_
        refine j_iload_n (q := 85) hx (dc kX12_begins_0 54 rfl) rfl 1 rfl rfl ?_
        refine j_iconst (q := 86) (v := (4 : Int32)) hx (dc kX12_begins_0 55 rfl) (by decide) rfl ?_
        refine j_aload_n (q := 87) hx (dc kX12_begins_0 56 rfl) rfl 0 rfl rfl ?_
        refine w_gR (q := 90) hx (dc kX12_begins_0 57 rfl) ff_X12_0 lk_X12_7 rfl (fun v25 => ?_)
        refine j_bipush (q := 92) (v := (51 : Int32)) hx (dc kX12_begins_0 58 rfl) (by decide) rfl ?_
        refine j_iload_n (q := 93) hx (dc kX12_begins_0 59 rfl) rfl 1 rfl rfl ?_
        refine j_iadd (q := 94) hx (dc kX12_begins_0 60 rfl) rfl ?_
        refine j_ldI (q := 95) hx (dc kX12_begins_0 61 rfl) rfl (fun v26 => ?_)
        refine w_cVVW (q := 98) (As := [.int x1, .int (4 : Int32), .int v26]) (st := []) hx (dc kX12_begins_0 62 rfl) cf12 (by decide) rfl (cI _ my_X12_puts lm_X12_283 (by decide)) vs_X12_puts rfl (fun u hu => sX12_puts _ _ _ _ _ _ _ _ hu) (fun e => ite_ne (by unfold mX12_puts at e; exact e)) (Nat.zero_le _) rfl (fun h28 => ?_)
        refine j_aload_n (q := 99) hx (dc kX12_begins_0 63 rfl) rfl 0 rfl rfl ?_
        refine j_iload_n (q := 100) hx (dc kX12_begins_1 0 rfl) rfl 1 rfl rfl ?_
        refine j_iconst (q := 101) (v := (5 : Int32)) hx (dc kX12_begins_1 1 rfl) (by decide) rfl ?_
        refine j_aload_n (q := 102) hx (dc kX12_begins_1 2 rfl) rfl 0 rfl rfl ?_
        refine w_gR (q := 105) hx (dc kX12_begins_1 3 rfl) ff_X12_0 lk_X12_7 rfl (fun v29 => ?_)
        refine j_bipush (q := 107) (v := (56 : Int32)) hx (dc kX12_begins_1 4 rfl) (by decide) rfl ?_
        refine j_iload_n (q := 108) hx (dc kX12_begins_1 5 rfl) rfl 1 rfl rfl ?_
        refine j_iadd (q := 109) hx (dc kX12_begins_1 6 rfl) rfl ?_
        refine j_ldI (q := 110) hx (dc kX12_begins_1 7 rfl) rfl (fun v30 => ?_)
        refine w_cVVW (q := 113) (As := [.int x1, .int (5 : Int32), .int v30]) (st := []) hx (dc kX12_begins_1 8 rfl) cf12 (by decide) rfl (cI _ my_X12_puts lm_X12_283 (by decide)) vs_X12_puts rfl (fun u hu => sX12_puts _ _ _ _ _ _ _ _ hu) (fun e => ite_ne (by unfold mX12_puts at e; exact e)) (Nat.zero_le _) rfl (fun h32 => ?_)
        refine j_aload_n (q := 114) hx (dc kX12_begins_1 9 rfl) rfl 0 rfl rfl ?_
        refine j_iload_n (q := 115) hx (dc kX12_begins_1 10 rfl) rfl 1 rfl rfl ?_
        refine j_bipush (q := 117) (v := (7 : Int32)) hx (dc kX12_begins_1 11 rfl) (by decide) rfl ?_
        refine j_iload_n (q := 118) hx (dc kX12_begins_1 12 rfl) rfl 1 rfl rfl ?_
        refine w_cVVW (q := 121) (As := [.int x1, .int (7 : Int32), .int x1]) (st := []) hx (dc kX12_begins_1 13 rfl) cf12 (by decide) rfl (cI _ my_X12_puts lm_X12_283 (by decide)) vs_X12_puts rfl (fun u hu => sX12_puts _ _ _ _ _ _ _ _ hu) (fun e => ite_ne (by unfold mX12_puts at e; exact e)) (Nat.zero_le _) rfl (fun h34 => ?_)
        refine j_iinc (q := 124) (l2 := [(0, vR x.2.2.2 x0)]) hx (dc kX12_begins_1 14 rfl) 1 rfl (v := (1 : Int32)) (by decide) (hn 1 (by decide)) [0] rfl ⟨⟨show (0 : Nat) ≠ 1 by decide, Or.inr (vR_cat _ _)⟩, trivial⟩ rfl ?_
        refine j_goto (q := 36) hx (dc kX12_begins_1 15 rfl) (by decide) ?_
        exact j_back [1, 0] ((x1 + (1 : Int32)), h34) rfl rfl
    exact j_loop (S := (Int32 × Hp)) (lvf := fun s => [(0, vR x.2.2.2 x0), (1, .int s.1)]) (hpf := fun s => s.2) (f := (fun s : (Int32 × Hp) => mX12_begins_l36f x0 s.1 s.2)) (fun s => hB s.1 s.2) (x1, h)
  have hb2 : ∀ (x0 : Nat) (x1 : Int32) (h : Hp), J x 2 [(0, vR x.2.2.2 x0), (1, .int x1)] [] h (mX12_begins_l2 x0 x1 h) (fun r => r = u) := by
    intro x0 x1 h
    have hB : ∀ (x1 : Int32) (h : Hp), J x 2 [(0, vR x.2.2.2 x0), (1, .int x1)] [] h (mX12_begins_l2f x0 x1 h) (TL (S := (Int32 × Hp)) x 2 (fun s => [(0, vR x.2.2.2 x0), (1, .int s.1)]) [] (fun s => s.2) (fun r => r = u)) := by
      intro x1 h
      unfold mX12_begins_l2f
      refine j_iload_n (q := 3) hx (dc kX12_begins_0 2 rfl) rfl 1 rfl rfl ?_
      refine j_bipush (q := 5) (v := (83 : Int32)) hx (dc kX12_begins_0 3 rfl) (by decide) rfl ?_
      refine j_icmp_geS (q := 8) (tgt := 21) hx (dc kX12_begins_0 4 rfl) (by decide) rfl ?_ ?_
      · refine j_exit ?_
        refine j_aload_n (q := 22) hx (dc kX12_begins_0 12 rfl) rfl 0 rfl rfl ?_
        refine w_gR (q := 25) hx (dc kX12_begins_0 13 rfl) ff_X12_4 lk_X12_23 rfl (fun v1 => ?_)
        refine j_bipush (q := 27) (v := (18 : Int32)) hx (dc kX12_begins_0 14 rfl) (by decide) rfl ?_
        refine j_aload_n (q := 28) hx (dc kX12_begins_0 15 rfl) rfl 0 rfl rfl ?_
        refine w_gR (q := 31) hx (dc kX12_begins_0 16 rfl) ff_X12_0 lk_X12_7 rfl (fun v2 => ?_)
        refine j_iconst (q := 32) (v := (2 : Int32)) hx (dc kX12_begins_0 17 rfl) (by decide) rfl ?_
        refine j_ldI (q := 33) hx (dc kX12_begins_0 18 rfl) rfl (fun v3 => ?_)
        refine w_stI (q := 34) hx (dc kX12_begins_0 19 rfl) rfl (fun h4 => ?_)
        refine j_iconst (q := 35) (v := (0 : Int32)) hx (dc kX12_begins_0 20 rfl) (by decide) rfl ?_
        refine j_istore_n (q := 36) (i := 1) (l2 := [(0, vR x.2.2.2 x0)]) hx (dc kX12_begins_0 21 rfl) rfl (hn 1 (by decide)) [0] rfl ⟨⟨show (0 : Nat) ≠ 1 by decide, Or.inr (vR_cat _ _)⟩, trivial⟩ rfl ?_
        exact j_sub [1, 0] rfl (hb36 x0 (0 : Int32) h4)
      · refine j_aload_n (q := 9) hx (dc kX12_begins_0 5 rfl) rfl 0 rfl rfl ?_
        refine w_gR (q := 12) hx (dc kX12_begins_0 6 rfl) ff_X12_4 lk_X12_23 rfl (fun v35 => ?_)
        refine j_iload_n (q := 13) hx (dc kX12_begins_0 7 rfl) rfl 1 rfl rfl ?_
        refine j_iconst (q := 14) (v := (0 : Int32)) hx (dc kX12_begins_0 8 rfl) (by decide) rfl ?_
        refine w_stI (q := 15) hx (dc kX12_begins_0 9 rfl) rfl (fun h36 => ?_)
        refine j_iinc (q := 18) (l2 := [(0, vR x.2.2.2 x0)]) hx (dc kX12_begins_0 10 rfl) 1 rfl (v := (1 : Int32)) (by decide) (hn 1 (by decide)) [0] rfl ⟨⟨show (0 : Nat) ≠ 1 by decide, Or.inr (vR_cat _ _)⟩, trivial⟩ rfl ?_
        refine j_goto (q := 2) hx (dc kX12_begins_0 11 rfl) (by decide) ?_
        exact j_back [1, 0] ((x1 + (1 : Int32)), h36) rfl rfl
    exact j_loop (S := (Int32 × Hp)) (lvf := fun s => [(0, vR x.2.2.2 x0), (1, .int s.1)]) (hpf := fun s => s.2) (f := (fun s : (Int32 × Hp) => mX12_begins_l2f x0 s.1 s.2)) (fun s => hB s.1 s.2) (x1, h)
  unfold mX12_begins
  refine J.ckd fun hck => ?_
  refine j_iconst (q := 1) (v := (0 : Int32)) hx (dc kX12_begins_0 0 rfl) (by decide) rfl ?_
  refine j_istore_n (q := 2) (i := 1) (l2 := [(0, vR x.2.2.2 x0)]) hx (dc kX12_begins_0 1 rfl) rfl (hn 1 (by decide)) [0] rfl ⟨⟨show (0 : Nat) ≠ 1 by decide, Or.inr (vR_cat _ _)⟩, trivial⟩ rfl ?_
  exact j_sub [1, 0] rfl (hb2 x0 (0 : Int32) h)

set_option maxHeartbeats 4000000 in
set_option maxRecDepth 100000 in
theorem sX12_suit (l : Launch) (w : Wd) (x0 : Nat) (h : Hp) (u : (Int32 × Hp)) (hK : mX12_suit x0 h = some u) : M1 l w mi_X12_suit 54 [vR w x0] h u.2 (some (.int u.1)) := by
  refine M1.of (own := RX12) (T := fun _ r => r = u) hK (by decide +kernel) rfl (by first | (simp only [lg_lenR, lg_lenI, lg_lenL, lg_len0]; decide) | decide) (fun x hx hnl hhf hl hw hret hnm hQ h0e => ⟨?_, rfl⟩)
  subst hw
  subst hl
  have hR : Rt x h u.2 (some (.int u.1)) ((some .int)) := ⟨h0e, hhf, hret, hQ⟩
  have hn : ∀ i, i < 2 → i < x.2.2.1.1.1 := fun i hi => by rw [hnl]; exact hi
  have e0 : lv_args 0 [vR x.2.2.2 x0] = [(0, vR x.2.2.2 x0)] := by simp only [lv_argsR, lv_argsI, lv_argsL, lv_args0]
  rw [e0]
  have hb99 : ∀ (x0 : Nat) (x1 : Int32) (h : Hp), J x 99 [(0, vR x.2.2.2 x0), (1, .int x1)] [] h (mX12_suit_l99 x0 x1 h) (fun r => r = u) := by
    intro x0 x1 h
    have hB : ∀ (x1 : Int32) (h : Hp), J x 99 [(0, vR x.2.2.2 x0), (1, .int x1)] [] h (mX12_suit_l99f x0 x1 h) (TL (S := (Int32 × Hp)) x 99 (fun s => [(0, vR x.2.2.2 x0), (1, .int s.1)]) [] (fun s => s.2) (fun r => r = u)) := by
      intro x1 h
      unfold mX12_suit_l99f
      refine j_iload_n (q := 100) hx (dc kX12_suit_0 53 rfl) rfl 1 rfl rfl ?_
      refine j_bipush (q := 102) (v := (13 : Int32)) hx (dc kX12_suit_0 54 rfl) (by decide) rfl ?_
      refine j_icmp_geS (q := 105) (tgt := 123) hx (dc kX12_suit_0 55 rfl) (by decide) rfl ?_ ?_
      · refine j_exit ?_
        refine j_aload_n (q := 124) hx (dc kX12_suit_1 2 rfl) rfl 0 rfl rfl ?_
        refine w_cVVW (q := 127) (As := []) (st := []) hx (dc kX12_suit_1 3 rfl) cf12 (by decide) rfl (cI _ my_X12_begins lm_X12_280 (by decide)) vs_X12_begins rfl (fun u hu => sX12_begins _ _ _ _ _ hu) (fun e => ite_ne (by unfold mX12_begins at e; exact e)) (Nat.zero_le _) rfl (fun h10 => ?_)
        refine j_aload_n (q := 128) hx (dc kX12_suit_1 4 rfl) rfl 0 rfl rfl ?_
        refine w_gR (q := 131) hx (dc kX12_suit_1 5 rfl) ff_X12_0 lk_X12_7 rfl (fun v11 => ?_)
        refine j_iconst (q := 132) (v := (0 : Int32)) hx (dc kX12_suit_1 6 rfl) (by decide) rfl ?_
        refine j_ldI (q := 133) hx (dc kX12_suit_1 7 rfl) rfl (fun v12 => ?_)
        exact r_iW hx hR (dc kX12_suit_1 8 rfl)
      · refine j_aload_n (q := 106) hx (dc kX12_suit_0 56 rfl) rfl 0 rfl rfl ?_
        refine w_gR (q := 109) hx (dc kX12_suit_0 57 rfl) ff_X12_2 lk_X12_16 rfl (fun v13 => ?_)
        refine j_iload_n (q := 110) hx (dc kX12_suit_0 58 rfl) rfl 1 rfl rfl ?_
        refine j_aload_n (q := 111) hx (dc kX12_suit_0 59 rfl) rfl 0 rfl rfl ?_
        refine w_gR (q := 114) hx (dc kX12_suit_0 60 rfl) ff_X12_3 lk_X12_20 rfl (fun v14 => ?_)
        refine j_iload_n (q := 115) hx (dc kX12_suit_0 61 rfl) rfl 1 rfl rfl ?_
        refine j_ldL (q := 116) hx (dc kX12_suit_0 62 rfl) rfl (fun v15 => ?_)
        refine w_stL (q := 117) hx (dc kX12_suit_0 63 rfl) rfl (fun h16 => ?_)
        refine j_iinc (q := 120) (l2 := [(0, vR x.2.2.2 x0)]) hx (dc kX12_suit_1 0 rfl) 1 rfl (v := (1 : Int32)) (by decide) (hn 1 (by decide)) [0] rfl ⟨⟨show (0 : Nat) ≠ 1 by decide, Or.inr (vR_cat _ _)⟩, trivial⟩ rfl ?_
        refine j_goto (q := 99) hx (dc kX12_suit_1 1 rfl) (by decide) ?_
        exact j_back [1, 0] ((x1 + (1 : Int32)), h16) rfl rfl
    exact j_loop (S := (Int32 × Hp)) (lvf := fun s => [(0, vR x.2.2.2 x0), (1, .int s.1)]) (hpf := fun s => s.2) (f := (fun s : (Int32 × Hp) => mX12_suit_l99f x0 s.1 s.2)) (fun s => hB s.1 s.2) (x1, h)
  have hb72 : ∀ (x0 : Nat) (x1 : Int32) (h : Hp), J x 72 [(0, vR x.2.2.2 x0), (1, .int x1)] [] h (mX12_suit_l72 x0 x1 h) (fun r => r = u) := by
    intro x0 x1 h
    have hB : ∀ (x1 : Int32) (h : Hp), J x 72 [(0, vR x.2.2.2 x0), (1, .int x1)] [] h (mX12_suit_l72f x0 x1 h) (TL (S := (Int32 × Hp)) x 72 (fun s => [(0, vR x.2.2.2 x0), (1, .int s.1)]) [] (fun s => s.2) (fun r => r = u)) := by
      intro x1 h
      unfold mX12_suit_l72f
      refine j_iload_n (q := 73) hx (dc kX12_suit_0 38 rfl) rfl 1 rfl rfl ?_
      refine j_sipush (q := 76) (v := (640 : Int32)) hx (dc kX12_suit_0 39 rfl) (by decide) rfl ?_
      refine j_icmp_geS (q := 79) (tgt := 97) hx (dc kX12_suit_0 40 rfl) (by decide) rfl ?_ ?_
      · refine j_exit ?_
        refine j_iconst (q := 98) (v := (0 : Int32)) hx (dc kX12_suit_0 51 rfl) (by decide) rfl ?_
        refine j_istore_n (q := 99) (i := 1) (l2 := [(0, vR x.2.2.2 x0)]) hx (dc kX12_suit_0 52 rfl) rfl (hn 1 (by decide)) [0] rfl ⟨⟨show (0 : Nat) ≠ 1 by decide, Or.inr (vR_cat _ _)⟩, trivial⟩ rfl ?_
        exact j_sub [1, 0] rfl (hb99 x0 (0 : Int32) h)
      · refine j_aload_n (q := 80) hx (dc kX12_suit_0 41 rfl) rfl 0 rfl rfl ?_
        refine w_gR (q := 83) hx (dc kX12_suit_0 42 rfl) ff_X12_0 lk_X12_7 rfl (fun v17 => ?_)
        refine j_iload_n (q := 84) hx (dc kX12_suit_0 43 rfl) rfl 1 rfl rfl ?_
        refine j_aload_n (q := 85) hx (dc kX12_suit_0 44 rfl) rfl 0 rfl rfl ?_
        refine w_gR (q := 88) hx (dc kX12_suit_0 45 rfl) ff_X12_1 lk_X12_13 rfl (fun v18 => ?_)
        refine j_iload_n (q := 89) hx (dc kX12_suit_0 46 rfl) rfl 1 rfl rfl ?_
        refine j_ldI (q := 90) hx (dc kX12_suit_0 47 rfl) rfl (fun v19 => ?_)
        refine w_stI (q := 91) hx (dc kX12_suit_0 48 rfl) rfl (fun h20 => ?_)
        refine j_iinc (q := 94) (l2 := [(0, vR x.2.2.2 x0)]) hx (dc kX12_suit_0 49 rfl) 1 rfl (v := (1 : Int32)) (by decide) (hn 1 (by decide)) [0] rfl ⟨⟨show (0 : Nat) ≠ 1 by decide, Or.inr (vR_cat _ _)⟩, trivial⟩ rfl ?_
        refine j_goto (q := 72) hx (dc kX12_suit_0 50 rfl) (by decide) ?_
        exact j_back [1, 0] ((x1 + (1 : Int32)), h20) rfl rfl
    exact j_loop (S := (Int32 × Hp)) (lvf := fun s => [(0, vR x.2.2.2 x0), (1, .int s.1)]) (hpf := fun s => s.2) (f := (fun s : (Int32 × Hp) => mX12_suit_l72f x0 s.1 s.2)) (fun s => hB s.1 s.2) (x1, h)
  have hb61 : ∀ (x0 : Nat) (h : Hp), J x 61 [(0, vR x.2.2.2 x0)] [] h (mX12_suit_b61 x0 h) (fun r => r = u) := by
    intro x0 h
    unfold mX12_suit_b61
    refine j_aload_n (q := 62) hx (dc kX12_suit_0 31 rfl) rfl 0 rfl rfl ?_
    refine w_cVIW (q := 65) (As := []) (st := []) hx (dc kX12_suit_0 32 rfl) cf12 (by decide) rfl (cI _ my_X12_isRead lm_X12_277 (by decide)) vs_X12_isRead rfl (fun u hu => sX12_isRead _ _ _ _ _ hu) (fun e => ite_ne (by unfold mX12_isRead at e; exact e)) (Nat.zero_le _) rfl (fun v7 h8 => ?_)
    refine j_if_neS (q := 68) (tgt := 70) hx (dc kX12_suit_0 33 rfl) (by decide) rfl ?_ ?_
    · refine j_iconst (q := 71) (v := (0 : Int32)) hx (dc kX12_suit_0 36 rfl) (by decide) rfl ?_
      refine j_istore_n (q := 72) (i := 1) (l2 := [(0, vR x.2.2.2 x0)]) hx (dc kX12_suit_0 37 rfl) rfl (hn 1 (by decide)) [0] rfl ⟨⟨show (0 : Nat) ≠ 1 by decide, Or.inr (vR_cat _ _)⟩, trivial⟩ rfl ?_
      exact j_sub [1, 0] rfl (hb72 x0 (0 : Int32) h8)
    · refine j_iconst (q := 69) (v := (-1 : Int32)) hx (dc kX12_suit_0 34 rfl) (by decide) rfl ?_
      exact r_iW hx hR (dc kX12_suit_0 35 rfl)
  have hb40 : ∀ (x0 : Nat) (h : Hp), J x 40 [(0, vR x.2.2.2 x0)] [] h (mX12_suit_l40 x0 h) (fun r => r = u) := by
    intro x0 h
    have hB : ∀ (h : Hp), J x 40 [(0, vR x.2.2.2 x0)] [] h (mX12_suit_l40f x0 h) (TL (S := Hp) x 40 (fun s => [(0, vR x.2.2.2 x0)]) [] (fun s => s) (fun r => r = u)) := by
      intro  h
      unfold mX12_suit_l40f
      refine j_aload_n (q := 41) hx (dc kX12_suit_0 22 rfl) rfl 0 rfl rfl ?_
      refine w_gI (q := 44) hx (dc kX12_suit_0 23 rfl) ff_X12_17 lk_X12_126 rfl (fun v6 => ?_)
      refine j_if_neS (q := 47) (tgt := 61) hx (dc kX12_suit_0 24 rfl) (by decide) rfl ?_ ?_
      · refine j_exit ?_
        exact hb61 x0 h
      · refine j_aload_n (q := 48) hx (dc kX12_suit_0 25 rfl) rfl 0 rfl rfl ?_
        refine w_gI (q := 51) hx (dc kX12_suit_0 26 rfl) ff_X12_14 lk_X12_109 rfl (fun v21 => ?_)
        refine j_if_eq (q := 54) (tgt := 61) hx (dc kX12_suit_0 27 rfl) (by decide) Iff.rfl rfl ?_ ?_
        · refine j_exit ?_
          exact hb61 x0 h
        · refine j_aload_n (q := 55) hx (dc kX12_suit_0 28 rfl) rfl 0 rfl rfl ?_
          refine w_cVVW (q := 58) (As := []) (st := []) hx (dc kX12_suit_0 29 rfl) cf12 (by decide) rfl (cI _ my_X12_readLine lm_X12_274 (by decide)) vs_X12_readLine rfl (fun u hu => sX12_readLine _ _ _ _ _ hu) (fun e => ite_ne (by unfold mX12_readLine at e; exact e)) (Nat.zero_le _) rfl (fun h23 => ?_)
          refine j_goto (q := 40) hx (dc kX12_suit_0 30 rfl) (by decide) ?_
          exact j_back [0] h23 rfl rfl
    exact j_loop (S := Hp) (lvf := fun s => [(0, vR x.2.2.2 x0)]) (hpf := fun s => s) (f := (fun s : Hp => mX12_suit_l40f x0 s)) (fun s => hB s) h
  have hb6 : ∀ (x0 : Nat) (x1 : Int32) (h : Hp), J x 6 [(0, vR x.2.2.2 x0), (1, .int x1)] [] h (mX12_suit_l6 x0 x1 h) (fun r => r = u) := by
    intro x0 x1 h
    have hB : ∀ (x1 : Int32) (h : Hp), J x 6 [(0, vR x.2.2.2 x0), (1, .int x1)] [] h (mX12_suit_l6f x0 x1 h) (TL (S := (Int32 × Hp)) x 6 (fun s => [(0, vR x.2.2.2 x0), (1, .int s.1)]) [] (fun s => s.2) (fun r => r = u)) := by
      intro x1 h
      unfold mX12_suit_l6f
      refine j_iload_n (q := 7) hx (dc kX12_suit_0 4 rfl) rfl 1 rfl rfl ?_
      refine j_sipush (q := 10) (v := (640 : Int32)) hx (dc kX12_suit_0 5 rfl) (by decide) rfl ?_
      refine j_icmp_geS (q := 13) (tgt := 26) hx (dc kX12_suit_0 6 rfl) (by decide) rfl ?_ ?_
      · refine j_exit ?_
        refine j_aload_n (q := 27) hx (dc kX12_suit_0 14 rfl) rfl 0 rfl rfl ?_
        refine w_gR (q := 30) hx (dc kX12_suit_0 15 rfl) ff_X12_1 lk_X12_13 rfl (fun v3 => ?_)
        refine j_iconst (q := 31) (v := (5 : Int32)) hx (dc kX12_suit_0 16 rfl) (by decide) rfl ?_
        refine j_sipush (q := 34) (v := (300 : Int32)) hx (dc kX12_suit_0 17 rfl) (by decide) rfl ?_
        refine w_stI (q := 35) hx (dc kX12_suit_0 18 rfl) rfl (fun h4 => ?_)
        refine j_aload_n (q := 36) hx (dc kX12_suit_0 19 rfl) rfl 0 rfl rfl ?_
        refine j_iconst (q := 37) (v := (0 : Int32)) hx (dc kX12_suit_0 20 rfl) (by decide) rfl ?_
        refine w_sZ (q := 40) hx (dc kX12_suit_0 21 rfl) ff_X12_22 rfl lk_X12_243 (Or.inl rfl) rfl (fun h5 => ?_)
        exact j_sub [0] rfl (hb40 x0 h5)
      · refine j_aload_n (q := 14) hx (dc kX12_suit_0 7 rfl) rfl 0 rfl rfl ?_
        refine w_gR (q := 17) hx (dc kX12_suit_0 8 rfl) ff_X12_1 lk_X12_13 rfl (fun v24 => ?_)
        refine j_iload_n (q := 18) hx (dc kX12_suit_0 9 rfl) rfl 1 rfl rfl ?_
        refine j_iconst (q := 19) (v := (0 : Int32)) hx (dc kX12_suit_0 10 rfl) (by decide) rfl ?_
        refine w_stI (q := 20) hx (dc kX12_suit_0 11 rfl) rfl (fun h25 => ?_)
        refine j_iinc (q := 23) (l2 := [(0, vR x.2.2.2 x0)]) hx (dc kX12_suit_0 12 rfl) 1 rfl (v := (1 : Int32)) (by decide) (hn 1 (by decide)) [0] rfl ⟨⟨show (0 : Nat) ≠ 1 by decide, Or.inr (vR_cat _ _)⟩, trivial⟩ rfl ?_
        refine j_goto (q := 6) hx (dc kX12_suit_0 13 rfl) (by decide) ?_
        exact j_back [1, 0] ((x1 + (1 : Int32)), h25) rfl rfl
    exact j_loop (S := (Int32 × Hp)) (lvf := fun s => [(0, vR x.2.2.2 x0), (1, .int s.1)]) (hpf := fun s => s.2) (f := (fun s : (Int32 × Hp) => mX12_suit_l6f x0 s.1 s.2)) (fun s => hB s.1 s.2) (x1, h)
  unfold mX12_suit
  refine J.ckd fun hck => ?_
  refine j_aload_n (q := 1) hx (dc kX12_suit_0 0 rfl) rfl 0 rfl rfl ?_
  refine w_cVVW (q := 4) (As := []) (st := []) hx (dc kX12_suit_0 1 rfl) cf12 (by decide) rfl (cI _ my_X12_takes lm_X12_271 (by decide)) vs_X12_takes rfl (fun u hu => sX12_takes _ _ _ _ _ hu) (fun e => ite_ne (by unfold mX12_takes at e; exact e)) (Nat.zero_le _) rfl (fun h2 => ?_)
  refine j_iconst (q := 5) (v := (0 : Int32)) hx (dc kX12_suit_0 2 rfl) (by decide) rfl ?_
  refine j_istore_n (q := 6) (i := 1) (l2 := [(0, vR x.2.2.2 x0)]) hx (dc kX12_suit_0 3 rfl) rfl (hn 1 (by decide)) [0] rfl ⟨⟨show (0 : Nat) ≠ 1 by decide, Or.inr (vR_cat _ _)⟩, trivial⟩ rfl ?_
  exact j_sub [1, 0] rfl (hb6 x0 (0 : Int32) h2)

set_option maxHeartbeats 4000000 in
set_option maxRecDepth 100000 in
theorem sX12_fault (l : Launch) (w : Wd) (x0 : Nat) (x1 : Int32) (h : Hp) (u : Int32) (hK : mX12_fault x0 x1 h = some u) : M1 l w mi_X12_fault 1 [vR w x0, .int x1] h h (some (.int u)) := by
  refine M1.of (own := RX12) (T := fun _ r => r = u) hK (by decide +kernel) rfl (by first | (simp only [lg_lenR, lg_lenI, lg_lenL, lg_len0]; decide) | decide) (fun x hx hnl hhf hl hw hret hnm hQ h0e => ⟨?_, rfl⟩)
  subst hw
  subst hl
  have hR : Rt x h h (some (.int u)) ((some .int)) := ⟨h0e, hhf, hret, hQ⟩
  have hn : ∀ i, i < 2 → i < x.2.2.1.1.1 := fun i hi => by rw [hnl]; exact hi
  have e0 : lv_args 0 [vR x.2.2.2 x0, .int x1] = [(0, vR x.2.2.2 x0), (1, .int x1)] := by simp only [lv_argsR, lv_argsI, lv_argsL, lv_args0]
  rw [e0]
  unfold mX12_fault
  refine J.ckd fun hck => ?_
  refine j_iload_n (q := 1) hx (dc kX12_fault_0 0 rfl) rfl 1 rfl rfl ?_
  refine j_if_neS (q := 4) (tgt := 11) hx (dc kX12_fault_0 1 rfl) (by decide) rfl ?_ ?_
  · refine j_iload_n (q := 12) hx (dc kX12_fault_0 5 rfl) rfl 1 rfl rfl ?_
    refine j_iconst (q := 13) (v := (1 : Int32)) hx (dc kX12_fault_0 6 rfl) (by decide) rfl ?_
    refine j_icmp_neS (q := 16) (tgt := 23) hx (dc kX12_fault_0 7 rfl) (by decide) rfl ?_ ?_
    · refine j_iconst (q := 24) (v := (-1 : Int32)) hx (dc kX12_fault_0 11 rfl) (by decide) rfl ?_
      exact r_iR hx hR (dc kX12_fault_0 12 rfl)
    · refine j_aload_n (q := 17) hx (dc kX12_fault_0 8 rfl) rfl 0 rfl rfl ?_
      refine w_gI (q := 20) hx (dc kX12_fault_0 9 rfl) ff_X12_20 lk_X12_39 rfl (fun v1 => ?_)
      refine j_goto (q := 24) hx (dc kX12_fault_0 10 rfl) (by decide) ?_
      exact r_iR hx hR (dc kX12_fault_0 12 rfl)
  · refine j_aload_n (q := 5) hx (dc kX12_fault_0 2 rfl) rfl 0 rfl rfl ?_
    refine w_gI (q := 8) hx (dc kX12_fault_0 3 rfl) ff_X12_19 lk_X12_268 rfl (fun v2 => ?_)
    refine j_goto (q := 24) hx (dc kX12_fault_0 4 rfl) (by decide) ?_
    exact r_iR hx hR (dc kX12_fault_0 12 rfl)

set_option maxHeartbeats 4000000 in
set_option maxRecDepth 100000 in
theorem sX12_many (l : Launch) (w : Wd) (x0 : Nat) (h : Hp) (u : Int32) (hK : mX12_many x0 h = some u) : M1 l w mi_X12_many 2 [vR w x0] h h (some (.int u)) := by
  refine M1.of (own := RX12) (T := fun _ r => r = u) hK (by decide +kernel) rfl (by first | (simp only [lg_lenR, lg_lenI, lg_lenL, lg_len0]; decide) | decide) (fun x hx hnl hhf hl hw hret hnm hQ h0e => ⟨?_, rfl⟩)
  subst hw
  subst hl
  have hR : Rt x h h (some (.int u)) ((some .int)) := ⟨h0e, hhf, hret, hQ⟩
  have hn : ∀ i, i < 3 → i < x.2.2.1.1.1 := fun i hi => by rw [hnl]; exact hi
  have e0 : lv_args 0 [vR x.2.2.2 x0] = [(0, vR x.2.2.2 x0)] := by simp only [lv_argsR, lv_argsI, lv_argsL, lv_args0]
  rw [e0]
  have hb4 : ∀ (x0 : Nat) (x1 : Int32) (x2 : Int32), J x 4 [(0, vR x.2.2.2 x0), (1, .int x1), (2, .int x2)] [] h (mX12_many_l4 x0 x1 x2 h) (fun r => r = u) := by
    intro x0 x1 x2
    have hB : ∀ (x1 : Int32) (x2 : Int32), J x 4 [(0, vR x.2.2.2 x0), (1, .int x1), (2, .int x2)] [] h (mX12_many_l4f x0 h x1 x2) (TL (S := (Int32 × Int32)) x 4 (fun s => [(0, vR x.2.2.2 x0), (1, .int s.1), (2, .int s.2)]) [] (fun s => h) (fun r => r = u)) := by
      intro x1 x2
      unfold mX12_many_l4f
      refine j_iload_n (q := 5) hx (dc kX12_many_0 4 rfl) rfl 2 rfl rfl ?_
      refine j_bipush (q := 7) (v := (8 : Int32)) hx (dc kX12_many_0 5 rfl) (by decide) rfl ?_
      refine j_icmp_geS (q := 10) (tgt := 25) hx (dc kX12_many_0 6 rfl) (by decide) rfl ?_ ?_
      · refine j_exit ?_
        refine j_iload_n (q := 26) hx (dc kX12_many_0 16 rfl) rfl 1 rfl rfl ?_
        exact r_iR hx hR (dc kX12_many_0 17 rfl)
      · refine j_iload_n (q := 11) hx (dc kX12_many_0 7 rfl) rfl 1 rfl rfl ?_
        refine j_aload_n (q := 12) hx (dc kX12_many_0 8 rfl) rfl 0 rfl rfl ?_
        refine j_iload_n (q := 13) hx (dc kX12_many_0 9 rfl) rfl 2 rfl rfl ?_
        refine j_ldI (q := 14) hx (dc kX12_many_0 10 rfl) rfl (fun v1 => ?_)
        refine w_cSIR (q := 17) (As := [.int v1]) (st := [.int x1]) hx (dc kX12_many_0 11 rfl) (cI _ my_X12_bits lm_X12_315 (by decide)) st_X12_bits rfl (fun u hu => sX12_bits _ _ _ _ _ hu) (sum_le (sum_I sum_nil) (by decide)) rfl (fun v2 => ?_)
        refine j_iadd (q := 18) hx (dc kX12_many_0 12 rfl) rfl ?_
        refine j_istore_n (q := 19) (i := 1) (l2 := [(0, vR x.2.2.2 x0), (2, .int x2)]) hx (dc kX12_many_0 13 rfl) rfl (hn 1 (by decide)) [0, 2] rfl ⟨⟨show (0 : Nat) ≠ 1 by decide, Or.inr (vR_cat _ _)⟩, ⟨⟨show (2 : Nat) ≠ 1 by decide, Or.inl (show (2 : Nat) + 1 ≠ 1 by decide)⟩, trivial⟩⟩ rfl ?_
        refine j_iinc (q := 22) (l2 := [(1, .int (x1 + v2)), (0, vR x.2.2.2 x0)]) hx (dc kX12_many_0 14 rfl) 2 rfl (v := (1 : Int32)) (by decide) (hn 2 (by decide)) [0, 1] rfl ⟨⟨show (1 : Nat) ≠ 2 by decide, Or.inr rfl⟩, ⟨⟨show (0 : Nat) ≠ 2 by decide, Or.inl (show (0 : Nat) + 1 ≠ 2 by decide)⟩, trivial⟩⟩ rfl ?_
        refine j_goto (q := 4) hx (dc kX12_many_0 15 rfl) (by decide) ?_
        exact j_back [2, 1, 0] ((x1 + v2), (x2 + (1 : Int32))) rfl rfl
    exact j_loop (S := (Int32 × Int32)) (lvf := fun s => [(0, vR x.2.2.2 x0), (1, .int s.1), (2, .int s.2)]) (hpf := fun s => h) (f := (fun s : (Int32 × Int32) => mX12_many_l4f x0 h s.1 s.2)) (fun s => hB s.1 s.2) (x1, x2)
  unfold mX12_many
  refine j_iconst (q := 1) (v := (0 : Int32)) hx (dc kX12_many_0 0 rfl) (by decide) rfl ?_
  refine j_istore_n (q := 2) (i := 1) (l2 := [(0, vR x.2.2.2 x0)]) hx (dc kX12_many_0 1 rfl) rfl (hn 1 (by decide)) [0] rfl ⟨⟨show (0 : Nat) ≠ 1 by decide, Or.inr (vR_cat _ _)⟩, trivial⟩ rfl ?_
  refine j_iconst (q := 3) (v := (0 : Int32)) hx (dc kX12_many_0 2 rfl) (by decide) rfl ?_
  refine j_istore_n (q := 4) (i := 2) (l2 := [(1, .int (0 : Int32)), (0, vR x.2.2.2 x0)]) hx (dc kX12_many_0 3 rfl) rfl (hn 2 (by decide)) [0, 1] rfl ⟨⟨show (1 : Nat) ≠ 2 by decide, Or.inr rfl⟩, ⟨⟨show (0 : Nat) ≠ 2 by decide, Or.inl (show (0 : Nat) + 1 ≠ 2 by decide)⟩, trivial⟩⟩ rfl ?_
  exact j_sub [2, 1, 0] rfl (hb4 x0 (0 : Int32) (0 : Int32))

set_option maxHeartbeats 4000000 in
set_option maxRecDepth 100000 in
theorem sX12_holdsIn (l : Launch) (w : Wd) (x0 : Nat) (x1 : Nat) (x2 : Int32) (h : Hp) (u : Int32) (hK : mX12_holdsIn x0 x1 x2 h = some u) : M1 l w mi_X12_holdsIn 2 [vR w x0, vR w x1, .int x2] h h (some (.int u)) := by
  refine M1.of (own := RX12) (T := fun _ r => r = u) hK (by decide +kernel) rfl (by first | (simp only [lg_lenR, lg_lenI, lg_lenL, lg_len0]; decide) | decide) (fun x hx hnl hhf hl hw hret hnm hQ h0e => ⟨?_, rfl⟩)
  subst hw
  subst hl
  have hR : Rt x h h (some (.int u)) ((some .int)) := ⟨h0e, hhf, hret, hQ⟩
  have hn : ∀ i, i < 5 → i < x.2.2.1.1.1 := fun i hi => by rw [hnl]; exact hi
  have e0 : lv_args 0 [vR x.2.2.2 x0, vR x.2.2.2 x1, .int x2] = [(0, vR x.2.2.2 x0), (1, vR x.2.2.2 x1), (2, .int x2)] := by simp only [lv_argsR, lv_argsI, lv_argsL, lv_args0]
  rw [e0]
  have hb5 : ∀ (x0 : Nat) (x1 : Nat) (x2 : Int32) (x3 : Int32) (x4 : Int32), J x 5 [(0, vR x.2.2.2 x0), (1, vR x.2.2.2 x1), (2, .int x2), (3, .int x3), (4, .int x4)] [] h (mX12_holdsIn_l5 x0 x1 x2 x3 x4 h) (fun r => r = u) := by
    intro x0 x1 x2 x3 x4
    have hB : ∀ (x3 : Int32) (x4 : Int32), J x 5 [(0, vR x.2.2.2 x0), (1, vR x.2.2.2 x1), (2, .int x2), (3, .int x3), (4, .int x4)] [] h (mX12_holdsIn_l5f x0 x1 x2 h x3 x4) (TL (S := (Int32 × Int32)) x 5 (fun s => [(0, vR x.2.2.2 x0), (1, vR x.2.2.2 x1), (2, .int x2), (3, .int s.1), (4, .int s.2)]) [] (fun s => h) (fun r => r = u)) := by
      intro x3 x4
      unfold mX12_holdsIn_l5f
      refine j_iload (q := 7) hx (dc kX12_holdsIn_0 4 rfl) 4 rfl rfl ?_
      refine j_bipush (q := 9) (v := (8 : Int32)) hx (dc kX12_holdsIn_0 5 rfl) (by decide) rfl ?_
      refine j_icmp_geS (q := 12) (tgt := 41) hx (dc kX12_holdsIn_0 6 rfl) (by decide) rfl ?_ ?_
      · refine j_exit ?_
        refine j_iload_n (q := 42) hx (dc kX12_holdsIn_0 25 rfl) rfl 3 rfl rfl ?_
        exact r_iR hx hR (dc kX12_holdsIn_0 26 rfl)
      · refine j_iload_n (q := 13) hx (dc kX12_holdsIn_0 7 rfl) rfl 3 rfl rfl ?_
        refine j_aload_n (q := 14) hx (dc kX12_holdsIn_0 8 rfl) rfl 1 rfl rfl ?_
        refine j_iload (q := 16) hx (dc kX12_holdsIn_0 9 rfl) 4 rfl rfl ?_
        refine j_ldI (q := 17) hx (dc kX12_holdsIn_0 10 rfl) rfl (fun v1 => ?_)
        refine j_aload_n (q := 18) hx (dc kX12_holdsIn_0 11 rfl) rfl 0 rfl rfl ?_
        refine w_gR (q := 21) hx (dc kX12_holdsIn_0 12 rfl) ff_X12_25 lk_X12_49 rfl (fun v2 => ?_)
        refine j_bipush (q := 23) (v := (8 : Int32)) hx (dc kX12_holdsIn_0 13 rfl) (by decide) rfl ?_
        refine j_iload_n (q := 24) hx (dc kX12_holdsIn_0 14 rfl) rfl 2 rfl rfl ?_
        refine j_imul (q := 25) hx (dc kX12_holdsIn_0 15 rfl) rfl ?_
        refine j_iload (q := 27) hx (dc kX12_holdsIn_0 16 rfl) 4 rfl rfl ?_
        refine j_iadd (q := 28) hx (dc kX12_holdsIn_0 17 rfl) rfl ?_
        refine j_ldI (q := 29) hx (dc kX12_holdsIn_0 18 rfl) rfl (fun v3 => ?_)
        refine j_iand (q := 30) hx (dc kX12_holdsIn_0 19 rfl) rfl ?_
        refine w_cSIR (q := 33) (As := [.int (v1 &&& v3)]) (st := [.int x3]) hx (dc kX12_holdsIn_0 20 rfl) (cI _ my_X12_bits lm_X12_315 (by decide)) st_X12_bits rfl (fun u hu => sX12_bits _ _ _ _ _ hu) (sum_le (sum_I sum_nil) (by decide)) rfl (fun v4 => ?_)
        refine j_iadd (q := 34) hx (dc kX12_holdsIn_0 21 rfl) rfl ?_
        refine j_istore_n (q := 35) (i := 3) (l2 := [(0, vR x.2.2.2 x0), (1, vR x.2.2.2 x1), (2, .int x2), (4, .int x4)]) hx (dc kX12_holdsIn_0 22 rfl) rfl (hn 3 (by decide)) [0, 1, 2, 4] rfl ⟨⟨show (0 : Nat) ≠ 3 by decide, Or.inl (show (0 : Nat) + 1 ≠ 3 by decide)⟩, ⟨⟨show (1 : Nat) ≠ 3 by decide, Or.inl (show (1 : Nat) + 1 ≠ 3 by decide)⟩, ⟨⟨show (2 : Nat) ≠ 3 by decide, Or.inr rfl⟩, ⟨⟨show (4 : Nat) ≠ 3 by decide, Or.inl (show (4 : Nat) + 1 ≠ 3 by decide)⟩, trivial⟩⟩⟩⟩ rfl ?_
        refine j_iinc (q := 38) (l2 := [(3, .int (x3 + v4)), (0, vR x.2.2.2 x0), (1, vR x.2.2.2 x1), (2, .int x2)]) hx (dc kX12_holdsIn_0 23 rfl) 4 rfl (v := (1 : Int32)) (by decide) (hn 4 (by decide)) [0, 1, 2, 3] rfl ⟨⟨show (3 : Nat) ≠ 4 by decide, Or.inr rfl⟩, ⟨⟨show (0 : Nat) ≠ 4 by decide, Or.inl (show (0 : Nat) + 1 ≠ 4 by decide)⟩, ⟨⟨show (1 : Nat) ≠ 4 by decide, Or.inl (show (1 : Nat) + 1 ≠ 4 by decide)⟩, ⟨⟨show (2 : Nat) ≠ 4 by decide, Or.inl (show (2 : Nat) + 1 ≠ 4 by decide)⟩, trivial⟩⟩⟩⟩ rfl ?_
        refine j_goto (q := 5) hx (dc kX12_holdsIn_0 24 rfl) (by decide) ?_
        exact j_back [2, 3, 4, 1, 0] ((x3 + v4), (x4 + (1 : Int32))) rfl rfl
    exact j_loop (S := (Int32 × Int32)) (lvf := fun s => [(0, vR x.2.2.2 x0), (1, vR x.2.2.2 x1), (2, .int x2), (3, .int s.1), (4, .int s.2)]) (hpf := fun s => h) (f := (fun s : (Int32 × Int32) => mX12_holdsIn_l5f x0 x1 x2 h s.1 s.2)) (fun s => hB s.1 s.2) (x3, x4)
  unfold mX12_holdsIn
  refine J.ckd fun hck => ?_
  refine j_iconst (q := 1) (v := (0 : Int32)) hx (dc kX12_holdsIn_0 0 rfl) (by decide) rfl ?_
  refine j_istore_n (q := 2) (i := 3) (l2 := [(0, vR x.2.2.2 x0), (1, vR x.2.2.2 x1), (2, .int x2)]) hx (dc kX12_holdsIn_0 1 rfl) rfl (hn 3 (by decide)) [0, 1, 2] rfl ⟨⟨show (0 : Nat) ≠ 3 by decide, Or.inl (show (0 : Nat) + 1 ≠ 3 by decide)⟩, ⟨⟨show (1 : Nat) ≠ 3 by decide, Or.inl (show (1 : Nat) + 1 ≠ 3 by decide)⟩, ⟨⟨show (2 : Nat) ≠ 3 by decide, Or.inr rfl⟩, trivial⟩⟩⟩ rfl ?_
  refine j_iconst (q := 3) (v := (0 : Int32)) hx (dc kX12_holdsIn_0 2 rfl) (by decide) rfl ?_
  refine j_istore (q := 5) (i := 4) (l2 := [(3, .int (0 : Int32)), (0, vR x.2.2.2 x0), (1, vR x.2.2.2 x1), (2, .int x2)]) hx (dc kX12_holdsIn_0 3 rfl) (hn 4 (by decide)) [0, 1, 2, 3] rfl ⟨⟨show (3 : Nat) ≠ 4 by decide, Or.inr rfl⟩, ⟨⟨show (0 : Nat) ≠ 4 by decide, Or.inl (show (0 : Nat) + 1 ≠ 4 by decide)⟩, ⟨⟨show (1 : Nat) ≠ 4 by decide, Or.inl (show (1 : Nat) + 1 ≠ 4 by decide)⟩, ⟨⟨show (2 : Nat) ≠ 4 by decide, Or.inl (show (2 : Nat) + 1 ≠ 4 by decide)⟩, trivial⟩⟩⟩⟩ rfl ?_
  exact j_sub [2, 3, 4, 1, 0] rfl (hb5 x0 x1 x2 (0 : Int32) (0 : Int32))

set_option maxHeartbeats 4000000 in
set_option maxRecDepth 100000 in
theorem sX12_isSure (l : Launch) (w : Wd) (x0 : Nat) (x1 : Nat) (x2 : Int32) (h : Hp) (u : Int32) (hK : mX12_isSure x0 x1 x2 h = some u) : M1 l w mi_X12_isSure 3 [vR w x0, vR w x1, .int x2] h h (some (.int u)) := by
  refine M1.of (own := RX12) (T := fun _ r => r = u) hK (by decide +kernel) rfl (by first | (simp only [lg_lenR, lg_lenI, lg_lenL, lg_len0]; decide) | decide) (fun x hx hnl hhf hl hw hret hnm hQ h0e => ⟨?_, rfl⟩)
  subst hw
  subst hl
  have hR : Rt x h h (some (.int u)) ((some .boolean)) := ⟨h0e, hhf, hret, hQ⟩
  have hn : ∀ i, i < 3 → i < x.2.2.1.1.1 := fun i hi => by rw [hnl]; exact hi
  have e0 : lv_args 0 [vR x.2.2.2 x0, vR x.2.2.2 x1, .int x2] = [(0, vR x.2.2.2 x0), (1, vR x.2.2.2 x1), (2, .int x2)] := by simp only [lv_argsR, lv_argsI, lv_argsL, lv_args0]
  rw [e0]
  unfold mX12_isSure
  refine J.ckd fun hck => ?_
  refine j_aload_n (q := 1) hx (dc kX12_isSure_0 0 rfl) rfl 0 rfl rfl ?_
  refine j_aload_n (q := 2) hx (dc kX12_isSure_0 1 rfl) rfl 1 rfl rfl ?_
  refine j_iload_n (q := 3) hx (dc kX12_isSure_0 2 rfl) rfl 2 rfl rfl ?_
  refine w_cVIR (q := 6) (As := [vR x.2.2.2 x1, .int x2]) (st := []) hx (dc kX12_isSure_0 3 rfl) cf12 (by decide) rfl (cI _ my_X12_holdsIn lm_X12_318 (by decide)) vs_X12_holdsIn rfl (fun u hu => sX12_holdsIn _ _ _ _ _ _ _ hu) (fun e => ite_ne (by unfold mX12_holdsIn at e; exact e)) (Nat.zero_le _) rfl (fun v1 => ?_)
  refine j_aload_n (q := 7) hx (dc kX12_isSure_0 4 rfl) rfl 1 rfl rfl ?_
  refine w_cSIR (q := 10) (As := [vR x.2.2.2 x1]) (st := [.int v1]) hx (dc kX12_isSure_0 5 rfl) (cI _ my_X12_many lm_X12_322 (by decide)) st_X12_many rfl (fun u hu => sX12_many _ _ _ _ _ hu) (sum_le (sum_I sum_nil) (by decide)) rfl (fun v3 => ?_)
  refine j_icmp_neS (q := 13) (tgt := 17) hx (dc kX12_isSure_0 6 rfl) (by decide) rfl ?_ ?_
  · refine j_iconst (q := 18) (v := (0 : Int32)) hx (dc kX12_isSure_0 9 rfl) (by decide) rfl ?_
    exact r_cR hx (Or.inl rfl) hR (dc kX12_isSure_0 10 rfl)
  · refine j_iconst (q := 14) (v := (1 : Int32)) hx (dc kX12_isSure_0 7 rfl) (by decide) rfl ?_
    refine j_goto (q := 18) hx (dc kX12_isSure_0 8 rfl) (by decide) ?_
    exact r_cR hx (Or.inr rfl) hR (dc kX12_isSure_0 10 rfl)

set_option maxHeartbeats 4000000 in
set_option maxRecDepth 100000 in
theorem sX12_its (l : Launch) (w : Wd) (x0 : Nat) (x1 : Int32) (x2 : Int32) (h : Hp) (u : Int32) (hK : mX12_its x0 x1 x2 h = some u) : M1 l w mi_X12_its 1 [vR w x0, .int x1, .int x2] h h (some (.int u)) := by
  refine M1.of (own := RX12) (T := fun _ r => r = u) hK (by decide +kernel) rfl (by first | (simp only [lg_lenR, lg_lenI, lg_lenL, lg_len0]; decide) | decide) (fun x hx hnl hhf hl hw hret hnm hQ h0e => ⟨?_, rfl⟩)
  subst hw
  subst hl
  have hR : Rt x h h (some (.int u)) ((some .int)) := ⟨h0e, hhf, hret, hQ⟩
  have hn : ∀ i, i < 3 → i < x.2.2.1.1.1 := fun i hi => by rw [hnl]; exact hi
  have e0 : lv_args 0 [vR x.2.2.2 x0, .int x1, .int x2] = [(0, vR x.2.2.2 x0), (1, .int x1), (2, .int x2)] := by simp only [lv_argsR, lv_argsI, lv_argsL, lv_args0]
  rw [e0]
  unfold mX12_its
  refine J.ckd fun hck => ?_
  refine j_aload_n (q := 1) hx (dc kX12_its_0 0 rfl) rfl 0 rfl rfl ?_
  refine w_gR (q := 4) hx (dc kX12_its_0 1 rfl) ff_X12_4 lk_X12_23 rfl (fun v1 => ?_)
  refine j_bipush (q := 6) (v := (19 : Int32)) hx (dc kX12_its_0 2 rfl) (by decide) rfl ?_
  refine j_bipush (q := 8) (v := (8 : Int32)) hx (dc kX12_its_0 3 rfl) (by decide) rfl ?_
  refine j_iload_n (q := 9) hx (dc kX12_its_0 4 rfl) rfl 1 rfl rfl ?_
  refine j_imul (q := 10) hx (dc kX12_its_0 5 rfl) rfl ?_
  refine j_iadd (q := 11) hx (dc kX12_its_0 6 rfl) rfl ?_
  refine j_iload_n (q := 12) hx (dc kX12_its_0 7 rfl) rfl 2 rfl rfl ?_
  refine j_iadd (q := 13) hx (dc kX12_its_0 8 rfl) rfl ?_
  refine j_ldI (q := 14) hx (dc kX12_its_0 9 rfl) rfl (fun v2 => ?_)
  exact r_iR hx hR (dc kX12_its_0 10 rfl)

set_option maxHeartbeats 4000000 in
set_option maxRecDepth 100000 in
theorem sX12_isFact (l : Launch) (w : Wd) (x0 : Nat) (x1 : Int32) (h : Hp) (u : Int32) (hK : mX12_isFact x0 x1 h = some u) : M1 l w mi_X12_isFact 2 [vR w x0, .int x1] h h (some (.int u)) := by
  refine M1.of (own := RX12) (T := fun _ r => r = u) hK (by decide +kernel) rfl (by first | (simp only [lg_lenR, lg_lenI, lg_lenL, lg_len0]; decide) | decide) (fun x hx hnl hhf hl hw hret hnm hQ h0e => ⟨?_, rfl⟩)
  subst hw
  subst hl
  have hR : Rt x h h (some (.int u)) ((some .boolean)) := ⟨h0e, hhf, hret, hQ⟩
  have hn : ∀ i, i < 2 → i < x.2.2.1.1.1 := fun i hi => by rw [hnl]; exact hi
  have e0 : lv_args 0 [vR x.2.2.2 x0, .int x1] = [(0, vR x.2.2.2 x0), (1, .int x1)] := by simp only [lv_argsR, lv_argsI, lv_argsL, lv_args0]
  rw [e0]
  unfold mX12_isFact
  refine J.ckd fun hck => ?_
  refine j_iload_n (q := 1) hx (dc kX12_isFact_0 0 rfl) rfl 1 rfl rfl ?_
  refine j_iconst (q := 2) (v := (0 : Int32)) hx (dc kX12_isFact_0 1 rfl) (by decide) rfl ?_
  refine j_aload_n (q := 3) hx (dc kX12_isFact_0 2 rfl) rfl 0 rfl rfl ?_
  refine w_gR (q := 6) hx (dc kX12_isFact_0 3 rfl) ff_X12_0 lk_X12_7 rfl (fun v1 => ?_)
  refine j_iconst (q := 7) (v := (1 : Int32)) hx (dc kX12_isFact_0 4 rfl) (by decide) rfl ?_
  refine j_ldI (q := 8) hx (dc kX12_isFact_0 5 rfl) rfl (fun v2 => ?_)
  refine j_iconst (q := 9) (v := (1 : Int32)) hx (dc kX12_isFact_0 6 rfl) (by decide) rfl ?_
  refine j_isub (q := 10) hx (dc kX12_isFact_0 7 rfl) rfl ?_
  refine w_cSIR (q := 13) (As := [.int x1, .int (0 : Int32), .int (v2 - (1 : Int32))]) (st := []) hx (dc kX12_isFact_0 8 rfl) (cI _ my_X12_in lm_X12_85 (by decide)) st_X12_in rfl (fun u hu => sX12_in _ _ _ _ _ _ _ hu) (Nat.zero_le _) rfl (fun v3 => ?_)
  exact r_zR hx hR (dc kX12_isFact_0 9 rfl)

set_option maxHeartbeats 4000000 in
set_option maxRecDepth 100000 in
theorem sX12_isCount (l : Launch) (w : Wd) (x0 : Nat) (x1 : Int32) (h : Hp) (u : Int32) (hK : mX12_isCount x0 x1 h = some u) : M1 l w mi_X12_isCount 2 [vR w x0, .int x1] h h (some (.int u)) := by
  refine M1.of (own := RX12) (T := fun _ r => r = u) hK (by decide +kernel) rfl (by first | (simp only [lg_lenR, lg_lenI, lg_lenL, lg_len0]; decide) | decide) (fun x hx hnl hhf hl hw hret hnm hQ h0e => ⟨?_, rfl⟩)
  subst hw
  subst hl
  have hR : Rt x h h (some (.int u)) ((some .boolean)) := ⟨h0e, hhf, hret, hQ⟩
  have hn : ∀ i, i < 2 → i < x.2.2.1.1.1 := fun i hi => by rw [hnl]; exact hi
  have e0 : lv_args 0 [vR x.2.2.2 x0, .int x1] = [(0, vR x.2.2.2 x0), (1, .int x1)] := by simp only [lv_argsR, lv_argsI, lv_argsL, lv_args0]
  rw [e0]
  unfold mX12_isCount
  refine J.ckd fun hck => ?_
  refine j_iload_n (q := 1) hx (dc kX12_isCount_0 0 rfl) rfl 1 rfl rfl ?_
  refine j_iconst (q := 2) (v := (0 : Int32)) hx (dc kX12_isCount_0 1 rfl) (by decide) rfl ?_
  refine j_aload_n (q := 3) hx (dc kX12_isCount_0 2 rfl) rfl 0 rfl rfl ?_
  refine w_gR (q := 6) hx (dc kX12_isCount_0 3 rfl) ff_X12_4 lk_X12_23 rfl (fun v1 => ?_)
  refine j_bipush (q := 8) (v := (18 : Int32)) hx (dc kX12_isCount_0 4 rfl) (by decide) rfl ?_
  refine j_ldI (q := 9) hx (dc kX12_isCount_0 5 rfl) rfl (fun v2 => ?_)
  refine j_iconst (q := 10) (v := (1 : Int32)) hx (dc kX12_isCount_0 6 rfl) (by decide) rfl ?_
  refine j_isub (q := 11) hx (dc kX12_isCount_0 7 rfl) rfl ?_
  refine w_cSIR (q := 14) (As := [.int x1, .int (0 : Int32), .int (v2 - (1 : Int32))]) (st := []) hx (dc kX12_isCount_0 8 rfl) (cI _ my_X12_in lm_X12_85 (by decide)) st_X12_in rfl (fun u hu => sX12_in _ _ _ _ _ _ _ hu) (Nat.zero_le _) rfl (fun v3 => ?_)
  exact r_zR hx hR (dc kX12_isCount_0 9 rfl)

set_option maxHeartbeats 4000000 in
set_option maxRecDepth 100000 in
theorem sX12_isLeft (l : Launch) (w : Wd) (x0 : Nat) (x1 : Int32) (h : Hp) (u : Int32) (hK : mX12_isLeft x0 x1 h = some u) : M1 l w mi_X12_isLeft 2 [vR w x0, .int x1] h h (some (.int u)) := by
  refine M1.of (own := RX12) (T := fun _ r => r = u) hK (by decide +kernel) rfl (by first | (simp only [lg_lenR, lg_lenI, lg_lenL, lg_len0]; decide) | decide) (fun x hx hnl hhf hl hw hret hnm hQ h0e => ⟨?_, rfl⟩)
  subst hw
  subst hl
  have hR : Rt x h h (some (.int u)) ((some .boolean)) := ⟨h0e, hhf, hret, hQ⟩
  have hn : ∀ i, i < 2 → i < x.2.2.1.1.1 := fun i hi => by rw [hnl]; exact hi
  have e0 : lv_args 0 [vR x.2.2.2 x0, .int x1] = [(0, vR x.2.2.2 x0), (1, .int x1)] := by simp only [lv_argsR, lv_argsI, lv_argsL, lv_args0]
  rw [e0]
  unfold mX12_isLeft
  refine J.ckd fun hck => ?_
  refine j_aload_n (q := 1) hx (dc kX12_isLeft_0 0 rfl) rfl 0 rfl rfl ?_
  refine w_gR (q := 4) hx (dc kX12_isLeft_0 1 rfl) ff_X12_27 lk_X12_55 rfl (fun v1 => ?_)
  refine j_iconst (q := 5) (v := (0 : Int32)) hx (dc kX12_isLeft_0 2 rfl) (by decide) rfl ?_
  refine j_iload_n (q := 6) hx (dc kX12_isLeft_0 3 rfl) rfl 1 rfl rfl ?_
  refine w_cSIR (q := 9) (As := [vR x.2.2.2 v1, .int (0 : Int32), .int x1]) (st := []) hx (dc kX12_isLeft_0 4 rfl) (cI _ my_X12_isIn lm_X12_311 (by decide)) st_X12_isIn rfl (fun u hu => sX12_isIn _ _ _ _ _ _ _ hu) (Nat.zero_le _) rfl (fun v2 => ?_)
  exact r_zR hx hR (dc kX12_isLeft_0 5 rfl)

set_option maxHeartbeats 4000000 in
set_option maxRecDepth 100000 in
theorem sX12_needs (l : Launch) (w : Wd) (x0 : Nat) (x1 : Int32) (h : Hp) (u : Int32) (hK : mX12_needs x0 x1 h = some u) : M1 l w mi_X12_needs 2 [vR w x0, .int x1] h h (some (.int u)) := by
  refine M1.of (own := RX12) (T := fun _ r => r = u) hK (by decide +kernel) rfl (by first | (simp only [lg_lenR, lg_lenI, lg_lenL, lg_len0]; decide) | decide) (fun x hx hnl hhf hl hw hret hnm hQ h0e => ⟨?_, rfl⟩)
  subst hw
  subst hl
  have hR : Rt x h h (some (.int u)) ((some .int)) := ⟨h0e, hhf, hret, hQ⟩
  have hn : ∀ i, i < 2 → i < x.2.2.1.1.1 := fun i hi => by rw [hnl]; exact hi
  have e0 : lv_args 0 [vR x.2.2.2 x0, .int x1] = [(0, vR x.2.2.2 x0), (1, .int x1)] := by simp only [lv_argsR, lv_argsI, lv_argsL, lv_args0]
  rw [e0]
  unfold mX12_needs
  refine J.ckd fun hck => ?_
  refine j_aload_n (q := 1) hx (dc kX12_needs_0 0 rfl) rfl 0 rfl rfl ?_
  refine w_gR (q := 4) hx (dc kX12_needs_0 1 rfl) ff_X12_0 lk_X12_7 rfl (fun v1 => ?_)
  refine j_bipush (q := 6) (v := (26 : Int32)) hx (dc kX12_needs_0 2 rfl) (by decide) rfl ?_
  refine j_aload_n (q := 7) hx (dc kX12_needs_0 3 rfl) rfl 0 rfl rfl ?_
  refine j_iload_n (q := 8) hx (dc kX12_needs_0 4 rfl) rfl 1 rfl rfl ?_
  refine j_iconst (q := 9) (v := (0 : Int32)) hx (dc kX12_needs_0 5 rfl) (by decide) rfl ?_
  refine w_cVIR (q := 12) (As := [.int x1, .int (0 : Int32)]) (st := [.int (26 : Int32), vR x.2.2.2 v1]) hx (dc kX12_needs_0 6 rfl) cf12 (by decide) rfl (cI _ my_X12_its lm_X12_339 (by decide)) vs_X12_its rfl (fun u hu => sX12_its _ _ _ _ _ _ _ hu) (fun e => ite_ne (by unfold mX12_its at e; exact e)) (sum_le (sum_I (sum_R sum_nil)) (by decide)) rfl (fun v2 => ?_)
  refine j_iadd (q := 13) hx (dc kX12_needs_0 7 rfl) rfl ?_
  refine j_ldI (q := 14) hx (dc kX12_needs_0 8 rfl) rfl (fun v4 => ?_)
  exact r_iR hx hR (dc kX12_needs_0 9 rfl)

set_option maxHeartbeats 4000000 in
set_option maxRecDepth 100000 in
theorem sX12_need (l : Launch) (w : Wd) (x0 : Nat) (x1 : Int32) (x2 : Int32) (h : Hp) (u : Int32) (hK : mX12_need x0 x1 x2 h = some u) : M1 l w mi_X12_need 2 [vR w x0, .int x1, .int x2] h h (some (.int u)) := by
  refine M1.of (own := RX12) (T := fun _ r => r = u) hK (by decide +kernel) rfl (by first | (simp only [lg_lenR, lg_lenI, lg_lenL, lg_len0]; decide) | decide) (fun x hx hnl hhf hl hw hret hnm hQ h0e => ⟨?_, rfl⟩)
  subst hw
  subst hl
  have hR : Rt x h h (some (.int u)) ((some .int)) := ⟨h0e, hhf, hret, hQ⟩
  have hn : ∀ i, i < 3 → i < x.2.2.1.1.1 := fun i hi => by rw [hnl]; exact hi
  have e0 : lv_args 0 [vR x.2.2.2 x0, .int x1, .int x2] = [(0, vR x.2.2.2 x0), (1, .int x1), (2, .int x2)] := by simp only [lv_argsR, lv_argsI, lv_argsL, lv_args0]
  rw [e0]
  unfold mX12_need
  refine J.ckd fun hck => ?_
  refine j_aload_n (q := 1) hx (dc kX12_need_0 0 rfl) rfl 0 rfl rfl ?_
  refine w_gR (q := 4) hx (dc kX12_need_0 1 rfl) ff_X12_0 lk_X12_7 rfl (fun v1 => ?_)
  refine j_bipush (q := 6) (v := (31 : Int32)) hx (dc kX12_need_0 2 rfl) (by decide) rfl ?_
  refine j_iconst (q := 7) (v := (4 : Int32)) hx (dc kX12_need_0 3 rfl) (by decide) rfl ?_
  refine j_aload_n (q := 8) hx (dc kX12_need_0 4 rfl) rfl 0 rfl rfl ?_
  refine j_iload_n (q := 9) hx (dc kX12_need_0 5 rfl) rfl 1 rfl rfl ?_
  refine j_iconst (q := 10) (v := (0 : Int32)) hx (dc kX12_need_0 6 rfl) (by decide) rfl ?_
  refine w_cVIR (q := 13) (As := [.int x1, .int (0 : Int32)]) (st := [.int (4 : Int32), .int (31 : Int32), vR x.2.2.2 v1]) hx (dc kX12_need_0 7 rfl) cf12 (by decide) rfl (cI _ my_X12_its lm_X12_339 (by decide)) vs_X12_its rfl (fun u hu => sX12_its _ _ _ _ _ _ _ hu) (fun e => ite_ne (by unfold mX12_its at e; exact e)) (sum_le (sum_I (sum_I (sum_R sum_nil))) (by decide)) rfl (fun v2 => ?_)
  refine j_imul (q := 14) hx (dc kX12_need_0 8 rfl) rfl ?_
  refine j_iadd (q := 15) hx (dc kX12_need_0 9 rfl) rfl ?_
  refine j_iload_n (q := 16) hx (dc kX12_need_0 10 rfl) rfl 2 rfl rfl ?_
  refine j_iadd (q := 17) hx (dc kX12_need_0 11 rfl) rfl ?_
  refine j_ldI (q := 18) hx (dc kX12_need_0 12 rfl) rfl (fun v4 => ?_)
  exact r_iR hx hR (dc kX12_need_0 13 rfl)

set_option maxHeartbeats 4000000 in
set_option maxRecDepth 100000 in
theorem sX12_barOf (l : Launch) (w : Wd) (x0 : Nat) (x1 : Int32) (x2 : Int32) (h : Hp) (u : Int32) (hK : mX12_barOf x0 x1 x2 h = some u) : M1 l w mi_X12_barOf 2 [vR w x0, .int x1, .int x2] h h (some (.int u)) := by
  refine M1.of (own := RX12) (T := fun _ r => r = u) hK (by decide +kernel) rfl (by first | (simp only [lg_lenR, lg_lenI, lg_lenL, lg_len0]; decide) | decide) (fun x hx hnl hhf hl hw hret hnm hQ h0e => ⟨?_, rfl⟩)
  subst hw
  subst hl
  have hR : Rt x h h (some (.int u)) ((some .int)) := ⟨h0e, hhf, hret, hQ⟩
  have hn : ∀ i, i < 5 → i < x.2.2.1.1.1 := fun i hi => by rw [hnl]; exact hi
  have e0 : lv_args 0 [vR x.2.2.2 x0, .int x1, .int x2] = [(0, vR x.2.2.2 x0), (1, .int x1), (2, .int x2)] := by simp only [lv_argsR, lv_argsI, lv_argsL, lv_args0]
  rw [e0]
  have hb5 : ∀ (x0 : Nat) (x1 : Int32) (x3 : Int32) (x4 : Int32), J x 5 [(0, vR x.2.2.2 x0), (1, .int x1), (3, .int x3), (4, .int x4)] [] h (mX12_barOf_l5 x0 x1 x3 x4 h) (fun r => r = u) := by
    intro x0 x1 x3 x4
    have hB : ∀ (x3 : Int32) (x4 : Int32), J x 5 [(0, vR x.2.2.2 x0), (1, .int x1), (3, .int x3), (4, .int x4)] [] h (mX12_barOf_l5f x0 x1 h x3 x4) (TL (S := (Int32 × Int32)) x 5 (fun s => [(0, vR x.2.2.2 x0), (1, .int x1), (3, .int s.1), (4, .int s.2)]) [] (fun s => h) (fun r => r = u)) := by
      intro x3 x4
      have hb56 : ∀ (x0 : Nat) (x1 : Int32) (x3 : Int32) (x4 : Int32), J x 56 [(0, vR x.2.2.2 x0), (1, .int x1), (3, .int x3), (4, .int x4)] [] h (mX12_barOf_b56 x0 x1 x3 x4 h) (TL (S := (Int32 × Int32)) x 5 (fun s => [(0, vR x.2.2.2 x0), (1, .int x1), (3, .int s.1), (4, .int s.2)]) [] (fun s => h) (fun r => r = u)) := by
        intro x0 x1 x3 x4
        unfold mX12_barOf_b56
        refine j_iinc (q := 59) (l2 := [(0, vR x.2.2.2 x0), (1, .int x1), (3, .int x3)]) hx (dc kX12_barOf_0 32 rfl) 3 rfl (v := (1 : Int32)) (by decide) (hn 4 (by decide)) [0, 1, 2] rfl ⟨⟨show (0 : Nat) ≠ 4 by decide, Or.inl (show (0 : Nat) + 1 ≠ 4 by decide)⟩, ⟨⟨show (1 : Nat) ≠ 4 by decide, Or.inl (show (1 : Nat) + 1 ≠ 4 by decide)⟩, ⟨⟨show (3 : Nat) ≠ 4 by decide, Or.inr rfl⟩, trivial⟩⟩⟩ rfl ?_
        refine j_goto (q := 5) hx (dc kX12_barOf_0 33 rfl) (by decide) ?_
        exact j_back [1, 2, 3, 0] (x3, (x4 + (1 : Int32))) rfl rfl
      unfold mX12_barOf_l5f
      refine j_iload (q := 7) hx (dc kX12_barOf_0 4 rfl) 3 rfl rfl ?_
      refine j_aload_n (q := 8) hx (dc kX12_barOf_0 5 rfl) rfl 0 rfl rfl ?_
      refine w_gR (q := 11) hx (dc kX12_barOf_0 6 rfl) ff_X12_0 lk_X12_7 rfl (fun v1 => ?_)
      refine j_iconst (q := 12) (v := (4 : Int32)) hx (dc kX12_barOf_0 7 rfl) (by decide) rfl ?_
      refine j_ldI (q := 13) hx (dc kX12_barOf_0 8 rfl) rfl (fun v2 => ?_)
      refine j_icmp_geS (q := 16) (tgt := 62) hx (dc kX12_barOf_0 9 rfl) (by decide) rfl ?_ ?_
      · refine j_exit ?_
        refine j_iconst (q := 63) (v := (-1 : Int32)) hx (dc kX12_barOf_0 34 rfl) (by decide) rfl ?_
        exact r_iR hx hR (dc kX12_barOf_0 35 rfl)
      · refine j_aload_n (q := 17) hx (dc kX12_barOf_0 10 rfl) rfl 0 rfl rfl ?_
        refine w_gR (q := 20) hx (dc kX12_barOf_0 11 rfl) ff_X12_0 lk_X12_7 rfl (fun v3 => ?_)
        refine j_bipush (q := 22) (v := (66 : Int32)) hx (dc kX12_barOf_0 12 rfl) (by decide) rfl ?_
        refine j_iload (q := 24) hx (dc kX12_barOf_0 13 rfl) 3 rfl rfl ?_
        refine j_iadd (q := 25) hx (dc kX12_barOf_0 14 rfl) rfl ?_
        refine j_ldI (q := 26) hx (dc kX12_barOf_0 15 rfl) rfl (fun v4 => ?_)
        refine j_aload_n (q := 27) hx (dc kX12_barOf_0 16 rfl) rfl 0 rfl rfl ?_
        refine j_iload_n (q := 28) hx (dc kX12_barOf_0 17 rfl) rfl 1 rfl rfl ?_
        refine j_iconst (q := 29) (v := (0 : Int32)) hx (dc kX12_barOf_0 18 rfl) (by decide) rfl ?_
        refine w_cVIR (q := 32) (As := [.int x1, .int (0 : Int32)]) (st := [.int v4]) hx (dc kX12_barOf_0 19 rfl) cf12 (by decide) rfl (cI _ my_X12_its lm_X12_339 (by decide)) vs_X12_its rfl (fun u hu => sX12_its _ _ _ _ _ _ _ hu) (fun e => ite_ne (by unfold mX12_its at e; exact e)) (sum_le (sum_I sum_nil) (by decide)) rfl (fun v5 => ?_)
        refine j_icmp_eq (q := 35) (tgt := 38) hx (dc kX12_barOf_0 20 rfl) (by decide) Iff.rfl rfl ?_ ?_
        · refine j_iload_n (q := 39) hx (dc kX12_barOf_0 22 rfl) rfl 2 rfl rfl ?_
          refine j_if_neS (q := 42) (tgt := 53) hx (dc kX12_barOf_0 23 rfl) (by decide) rfl ?_ ?_
          · refine j_iinc (q := 56) (l2 := [(0, vR x.2.2.2 x0), (1, .int x1), (4, .int x4)]) hx (dc kX12_barOf_0 31 rfl) 2 rfl (v := (-1 : Int32)) (by decide) (hn 3 (by decide)) [0, 1, 3] rfl ⟨⟨show (0 : Nat) ≠ 3 by decide, Or.inl (show (0 : Nat) + 1 ≠ 3 by decide)⟩, ⟨⟨show (1 : Nat) ≠ 3 by decide, Or.inl (show (1 : Nat) + 1 ≠ 3 by decide)⟩, ⟨⟨show (4 : Nat) ≠ 3 by decide, Or.inl (show (4 : Nat) + 1 ≠ 3 by decide)⟩, trivial⟩⟩⟩ rfl ?_
            exact j_sub [1, 2, 0, 3] rfl (hb56 x0 x1 (x3 + (-1 : Int32)) x4)
          · refine j_exit ?_
            refine j_aload_n (q := 43) hx (dc kX12_barOf_0 24 rfl) rfl 0 rfl rfl ?_
            refine w_gR (q := 46) hx (dc kX12_barOf_0 25 rfl) ff_X12_0 lk_X12_7 rfl (fun v7 => ?_)
            refine j_bipush (q := 48) (v := (72 : Int32)) hx (dc kX12_barOf_0 26 rfl) (by decide) rfl ?_
            refine j_iload (q := 50) hx (dc kX12_barOf_0 27 rfl) 3 rfl rfl ?_
            refine j_iadd (q := 51) hx (dc kX12_barOf_0 28 rfl) rfl ?_
            refine j_ldI (q := 52) hx (dc kX12_barOf_0 29 rfl) rfl (fun v8 => ?_)
            exact r_iR hx hR (dc kX12_barOf_0 30 rfl)
        · refine j_goto (q := 56) hx (dc kX12_barOf_0 21 rfl) (by decide) ?_
          exact hb56 x0 x1 x3 x4
    exact j_loop (S := (Int32 × Int32)) (lvf := fun s => [(0, vR x.2.2.2 x0), (1, .int x1), (3, .int s.1), (4, .int s.2)]) (hpf := fun s => h) (f := (fun s : (Int32 × Int32) => mX12_barOf_l5f x0 x1 h s.1 s.2)) (fun s => hB s.1 s.2) (x3, x4)
  unfold mX12_barOf
  refine J.ckd fun hck => ?_
  refine j_iload_n (q := 1) hx (dc kX12_barOf_0 0 rfl) rfl 2 rfl rfl ?_
  refine j_istore_n (q := 2) (i := 3) (l2 := [(0, vR x.2.2.2 x0), (1, .int x1)]) hx (dc kX12_barOf_0 1 rfl) rfl (hn 3 (by decide)) [0, 1] rfl ⟨⟨show (0 : Nat) ≠ 3 by decide, Or.inl (show (0 : Nat) + 1 ≠ 3 by decide)⟩, ⟨⟨show (1 : Nat) ≠ 3 by decide, Or.inl (show (1 : Nat) + 1 ≠ 3 by decide)⟩, trivial⟩⟩ rfl ?_
  refine j_iconst (q := 3) (v := (0 : Int32)) hx (dc kX12_barOf_0 2 rfl) (by decide) rfl ?_
  refine j_istore (q := 5) (i := 4) (l2 := [(3, .int x2), (0, vR x.2.2.2 x0), (1, .int x1)]) hx (dc kX12_barOf_0 3 rfl) (hn 4 (by decide)) [0, 1, 2] rfl ⟨⟨show (3 : Nat) ≠ 4 by decide, Or.inr rfl⟩, ⟨⟨show (0 : Nat) ≠ 4 by decide, Or.inl (show (0 : Nat) + 1 ≠ 4 by decide)⟩, ⟨⟨show (1 : Nat) ≠ 4 by decide, Or.inl (show (1 : Nat) + 1 ≠ 4 by decide)⟩, trivial⟩⟩⟩ rfl ?_
  exact j_sub [2, 3, 1, 0] rfl (hb5 x0 x1 x2 (0 : Int32))

set_option maxHeartbeats 4000000 in
set_option maxRecDepth 100000 in
theorem sX12_bars (l : Launch) (w : Wd) (x0 : Nat) (x1 : Int32) (h : Hp) (u : Int32) (hK : mX12_bars x0 x1 h = some u) : M1 l w mi_X12_bars 3 [vR w x0, .int x1] h h (some (.int u)) := by
  refine M1.of (own := RX12) (T := fun _ r => r = u) hK (by decide +kernel) rfl (by first | (simp only [lg_lenR, lg_lenI, lg_lenL, lg_len0]; decide) | decide) (fun x hx hnl hhf hl hw hret hnm hQ h0e => ⟨?_, rfl⟩)
  subst hw
  subst hl
  have hR : Rt x h h (some (.int u)) ((some .int)) := ⟨h0e, hhf, hret, hQ⟩
  have hn : ∀ i, i < 3 → i < x.2.2.1.1.1 := fun i hi => by rw [hnl]; exact hi
  have e0 : lv_args 0 [vR x.2.2.2 x0, .int x1] = [(0, vR x.2.2.2 x0), (1, .int x1)] := by simp only [lv_argsR, lv_argsI, lv_argsL, lv_args0]
  rw [e0]
  have hb2 : ∀ (x0 : Nat) (x1 : Int32) (x2 : Int32), J x 2 [(0, vR x.2.2.2 x0), (1, .int x1), (2, .int x2)] [] h (mX12_bars_l2 x0 x1 x2 h) (fun r => r = u) := by
    intro x0 x1 x2
    have hB : ∀ (x2 : Int32), J x 2 [(0, vR x.2.2.2 x0), (1, .int x1), (2, .int x2)] [] h (mX12_bars_l2f x0 x1 h x2) (TL (S := Int32) x 2 (fun s => [(0, vR x.2.2.2 x0), (1, .int x1), (2, .int s)]) [] (fun s => h) (fun r => r = u)) := by
      intro x2
      unfold mX12_bars_l2f
      refine j_aload_n (q := 3) hx (dc kX12_bars_0 2 rfl) rfl 0 rfl rfl ?_
      refine j_iload_n (q := 4) hx (dc kX12_bars_0 3 rfl) rfl 1 rfl rfl ?_
      refine j_iload_n (q := 5) hx (dc kX12_bars_0 4 rfl) rfl 2 rfl rfl ?_
      refine w_cVIR (q := 8) (As := [.int x1, .int x2]) (st := []) hx (dc kX12_bars_0 5 rfl) cf12 (by decide) rfl (cI _ my_X12_barOf lm_X12_342 (by decide)) vs_X12_barOf rfl (fun u hu => sX12_barOf _ _ _ _ _ _ _ hu) (fun e => ite_ne (by unfold mX12_barOf at e; exact e)) (Nat.zero_le _) rfl (fun v1 => ?_)
      refine j_iconst (q := 9) (v := (-1 : Int32)) hx (dc kX12_bars_0 6 rfl) (by decide) rfl ?_
      refine j_icmp_eq (q := 12) (tgt := 18) hx (dc kX12_bars_0 7 rfl) (by decide) Iff.rfl rfl ?_ ?_
      · refine j_exit ?_
        refine j_iload_n (q := 19) hx (dc kX12_bars_0 10 rfl) rfl 2 rfl rfl ?_
        exact r_iR hx hR (dc kX12_bars_0 11 rfl)
      · refine j_iinc (q := 15) (l2 := [(0, vR x.2.2.2 x0), (1, .int x1)]) hx (dc kX12_bars_0 8 rfl) 2 rfl (v := (1 : Int32)) (by decide) (hn 2 (by decide)) [0, 1] rfl ⟨⟨show (0 : Nat) ≠ 2 by decide, Or.inl (show (0 : Nat) + 1 ≠ 2 by decide)⟩, ⟨⟨show (1 : Nat) ≠ 2 by decide, Or.inr rfl⟩, trivial⟩⟩ rfl ?_
        refine j_goto (q := 2) hx (dc kX12_bars_0 9 rfl) (by decide) ?_
        exact j_back [1, 2, 0] (x2 + (1 : Int32)) rfl rfl
    exact j_loop (S := Int32) (lvf := fun s => [(0, vR x.2.2.2 x0), (1, .int x1), (2, .int s)]) (hpf := fun s => h) (f := (fun s : Int32 => mX12_bars_l2f x0 x1 h s)) (fun s => hB s) x2
  unfold mX12_bars
  refine J.ckd fun hck => ?_
  refine j_iconst (q := 1) (v := (0 : Int32)) hx (dc kX12_bars_0 0 rfl) (by decide) rfl ?_
  refine j_istore_n (q := 2) (i := 2) (l2 := [(0, vR x.2.2.2 x0), (1, .int x1)]) hx (dc kX12_bars_0 1 rfl) rfl (hn 2 (by decide)) [0, 1] rfl ⟨⟨show (0 : Nat) ≠ 2 by decide, Or.inl (show (0 : Nat) + 1 ≠ 2 by decide)⟩, ⟨⟨show (1 : Nat) ≠ 2 by decide, Or.inr rfl⟩, trivial⟩⟩ rfl ?_
  exact j_sub [1, 2, 0] rfl (hb2 x0 x1 (0 : Int32))

set_option maxHeartbeats 4000000 in
set_option maxRecDepth 100000 in
theorem sX12_isWon (l : Launch) (w : Wd) (x0 : Nat) (x1 : Int32) (x2 : Int32) (h : Hp) (u : Int32) (hK : mX12_isWon x0 x1 x2 h = some u) : M1 l w mi_X12_isWon 2 [vR w x0, .int x1, .int x2] h h (some (.int u)) := by
  refine M1.of (own := RX12) (T := fun _ r => r = u) hK (by decide +kernel) rfl (by first | (simp only [lg_lenR, lg_lenI, lg_lenL, lg_len0]; decide) | decide) (fun x hx hnl hhf hl hw hret hnm hQ h0e => ⟨?_, rfl⟩)
  subst hw
  subst hl
  have hR : Rt x h h (some (.int u)) ((some .boolean)) := ⟨h0e, hhf, hret, hQ⟩
  have hn : ∀ i, i < 3 → i < x.2.2.1.1.1 := fun i hi => by rw [hnl]; exact hi
  have e0 : lv_args 0 [vR x.2.2.2 x0, .int x1, .int x2] = [(0, vR x.2.2.2 x0), (1, .int x1), (2, .int x2)] := by simp only [lv_argsR, lv_argsI, lv_argsL, lv_args0]
  rw [e0]
  unfold mX12_isWon
  refine J.ckd fun hck => ?_
  refine j_aload_n (q := 1) hx (dc kX12_isWon_0 0 rfl) rfl 0 rfl rfl ?_
  refine w_gR (q := 4) hx (dc kX12_isWon_0 1 rfl) ff_X12_26 lk_X12_52 rfl (fun v1 => ?_)
  refine j_aload_n (q := 5) hx (dc kX12_isWon_0 2 rfl) rfl 0 rfl rfl ?_
  refine j_iload_n (q := 6) hx (dc kX12_isWon_0 3 rfl) rfl 1 rfl rfl ?_
  refine j_iconst (q := 7) (v := (0 : Int32)) hx (dc kX12_isWon_0 4 rfl) (by decide) rfl ?_
  refine w_cVIR (q := 10) (As := [.int x1, .int (0 : Int32)]) (st := [vR x.2.2.2 v1]) hx (dc kX12_isWon_0 5 rfl) cf12 (by decide) rfl (cI _ my_X12_its lm_X12_339 (by decide)) vs_X12_its rfl (fun u hu => sX12_its _ _ _ _ _ _ _ hu) (fun e => ite_ne (by unfold mX12_its at e; exact e)) (sum_le (sum_R sum_nil) (by decide)) rfl (fun v2 => ?_)
  refine j_iload_n (q := 11) hx (dc kX12_isWon_0 6 rfl) rfl 2 rfl rfl ?_
  refine w_cSIR (q := 14) (As := [vR x.2.2.2 v1, .int v2, .int x2]) (st := []) hx (dc kX12_isWon_0 7 rfl) (cI _ my_X12_isIn lm_X12_311 (by decide)) st_X12_isIn rfl (fun u hu => sX12_isIn _ _ _ _ _ _ _ hu) (Nat.zero_le _) rfl (fun v4 => ?_)
  exact r_zR hx hR (dc kX12_isWon_0 8 rfl)

set_option maxHeartbeats 4000000 in
set_option maxRecDepth 100000 in
theorem sX12_backBy (l : Launch) (w : Wd) (x0 : Nat) (x1 : Int32) (x2 : Int32) (h : Hp) (u : Int32) (hK : mX12_backBy x0 x1 x2 h = some u) : M1 l w mi_X12_backBy 2 [vR w x0, .int x1, .int x2] h h (some (.int u)) := by
  refine M1.of (own := RX12) (T := fun _ r => r = u) hK (by decide +kernel) rfl (by first | (simp only [lg_lenR, lg_lenI, lg_lenL, lg_len0]; decide) | decide) (fun x hx hnl hhf hl hw hret hnm hQ h0e => ⟨?_, rfl⟩)
  subst hw
  subst hl
  have hR : Rt x h h (some (.int u)) ((some .int)) := ⟨h0e, hhf, hret, hQ⟩
  have hn : ∀ i, i < 6 → i < x.2.2.1.1.1 := fun i hi => by rw [hnl]; exact hi
  have e0 : lv_args 0 [vR x.2.2.2 x0, .int x1, .int x2] = [(0, vR x.2.2.2 x0), (1, .int x1), (2, .int x2)] := by simp only [lv_argsR, lv_argsI, lv_argsL, lv_args0]
  rw [e0]
  have hb10 : ∀ (x0 : Nat) (x1 : Int32) (x2 : Int32) (x3 : Int32) (x4 : Int32), J x 10 [(0, vR x.2.2.2 x0), (1, .int x1), (2, .int x2), (3, .int x3), (4, .int x4)] [] h (mX12_backBy_l10 x0 x1 x2 x3 x4 h) (fun r => r = u) := by
    intro x0 x1 x2 x3 x4
    have hB : ∀ (x3 : Int32) (x4 : Int32), J x 10 [(0, vR x.2.2.2 x0), (1, .int x1), (2, .int x2), (3, .int x3), (4, .int x4)] [] h (mX12_backBy_l10f x0 x1 x2 h x3 x4) (TL (S := (Int32 × Int32)) x 10 (fun s => [(0, vR x.2.2.2 x0), (1, .int x1), (2, .int x2), (3, .int s.1), (4, .int s.2)]) [] (fun s => h) (fun r => r = u)) := by
      intro x3 x4
      have hb79 : ∀ (x0 : Nat) (x1 : Int32) (x2 : Int32) (x3 : Int32) (x4 : Int32), J x 79 [(0, vR x.2.2.2 x0), (1, .int x1), (2, .int x2), (3, .int x3), (4, .int x4)] [] h (mX12_backBy_b79 x0 x1 x2 x3 x4 h) (TL (S := (Int32 × Int32)) x 10 (fun s => [(0, vR x.2.2.2 x0), (1, .int x1), (2, .int x2), (3, .int s.1), (4, .int s.2)]) [] (fun s => h) (fun r => r = u)) := by
        intro x0 x1 x2 x3 x4
        unfold mX12_backBy_b79
        refine j_iinc (q := 82) (l2 := [(0, vR x.2.2.2 x0), (1, .int x1), (2, .int x2), (3, .int x3)]) hx (dc kX12_backBy_0 45 rfl) 4 rfl (v := (1 : Int32)) (by decide) (hn 4 (by decide)) [0, 1, 2, 3] rfl ⟨⟨show (0 : Nat) ≠ 4 by decide, Or.inl (show (0 : Nat) + 1 ≠ 4 by decide)⟩, ⟨⟨show (1 : Nat) ≠ 4 by decide, Or.inl (show (1 : Nat) + 1 ≠ 4 by decide)⟩, ⟨⟨show (2 : Nat) ≠ 4 by decide, Or.inl (show (2 : Nat) + 1 ≠ 4 by decide)⟩, ⟨⟨show (3 : Nat) ≠ 4 by decide, Or.inr rfl⟩, trivial⟩⟩⟩⟩ rfl ?_
        refine j_goto (q := 10) hx (dc kX12_backBy_0 46 rfl) (by decide) ?_
        exact j_back [1, 2, 3, 4, 0] (x3, (x4 + (1 : Int32))) rfl rfl
      unfold mX12_backBy_l10f
      refine j_iload (q := 12) hx (dc kX12_backBy_0 7 rfl) 4 rfl rfl ?_
      refine j_aload_n (q := 13) hx (dc kX12_backBy_0 8 rfl) rfl 0 rfl rfl ?_
      refine w_gR (q := 16) hx (dc kX12_backBy_0 9 rfl) ff_X12_4 lk_X12_23 rfl (fun v3 => ?_)
      refine j_bipush (q := 18) (v := (18 : Int32)) hx (dc kX12_backBy_0 10 rfl) (by decide) rfl ?_
      refine j_ldI (q := 19) hx (dc kX12_backBy_0 11 rfl) rfl (fun v4 => ?_)
      refine j_icmp_geS (q := 22) (tgt := 85) hx (dc kX12_backBy_0 12 rfl) (by decide) rfl ?_ ?_
      · refine j_exit ?_
        refine j_iload_n (q := 86) hx (dc kX12_backBy_0 47 rfl) rfl 3 rfl rfl ?_
        exact r_iR hx hR (dc kX12_backBy_0 48 rfl)
      · refine j_iload_n (q := 23) hx (dc kX12_backBy_0 13 rfl) rfl 2 rfl rfl ?_
        refine j_if_eq (q := 26) (tgt := 85) hx (dc kX12_backBy_0 14 rfl) (by decide) Iff.rfl rfl ?_ ?_
        · refine j_exit ?_
          refine j_iload_n (q := 86) hx (dc kX12_backBy_0 47 rfl) rfl 3 rfl rfl ?_
          exact r_iR hx hR (dc kX12_backBy_0 48 rfl)
        · refine j_aload_n (q := 27) hx (dc kX12_backBy_0 15 rfl) rfl 0 rfl rfl ?_
          refine j_iload (q := 29) hx (dc kX12_backBy_0 16 rfl) 4 rfl rfl ?_
          refine j_iconst (q := 30) (v := (4 : Int32)) hx (dc kX12_backBy_0 17 rfl) (by decide) rfl ?_
          refine w_cVIR (q := 33) (As := [.int x4, .int (4 : Int32)]) (st := []) hx (dc kX12_backBy_0 18 rfl) cf12 (by decide) rfl (cI _ my_X12_its lm_X12_339 (by decide)) vs_X12_its rfl (fun u hu => sX12_its _ _ _ _ _ _ _ hu) (fun e => ite_ne (by unfold mX12_its at e; exact e)) (Nat.zero_le _) rfl (fun v5 => ?_)
          refine j_iload_n (q := 34) hx (dc kX12_backBy_0 19 rfl) rfl 2 rfl rfl ?_
          refine j_iand (q := 35) hx (dc kX12_backBy_0 20 rfl) rfl ?_
          refine j_istore (q := 37) (i := 5) (l2 := [(0, vR x.2.2.2 x0), (1, .int x1), (2, .int x2), (3, .int x3), (4, .int x4)]) hx (dc kX12_backBy_0 21 rfl) (hn 5 (by decide)) [0, 1, 2, 3, 4] rfl ⟨⟨show (0 : Nat) ≠ 5 by decide, Or.inl (show (0 : Nat) + 1 ≠ 5 by decide)⟩, ⟨⟨show (1 : Nat) ≠ 5 by decide, Or.inl (show (1 : Nat) + 1 ≠ 5 by decide)⟩, ⟨⟨show (2 : Nat) ≠ 5 by decide, Or.inl (show (2 : Nat) + 1 ≠ 5 by decide)⟩, ⟨⟨show (3 : Nat) ≠ 5 by decide, Or.inl (show (3 : Nat) + 1 ≠ 5 by decide)⟩, ⟨⟨show (4 : Nat) ≠ 5 by decide, Or.inr rfl⟩, trivial⟩⟩⟩⟩⟩ rfl ?_
          refine j_aload_n (q := 38) hx (dc kX12_backBy_0 22 rfl) rfl 1 rfl rfl ?_
          refine j_iload (q := 40) hx (dc kX12_backBy_0 23 rfl) 5 rfl rfl ?_
          refine j_iconst (q := 41) (v := (1 : Int32)) hx (dc kX12_backBy_0 24 rfl) (by decide) rfl ?_
          refine w_cVIR (q := 44) (As := [.int x4, .int (1 : Int32)]) (st := []) hx (dc kX12_backBy_0 25 rfl) cf12 (by decide) rfl (cI _ my_X12_its lm_X12_339 (by decide)) vs_X12_its rfl (fun u hu => sX12_its _ _ _ _ _ _ _ hu) (fun e => ite_ne (by unfold mX12_its at e; exact e)) (Nat.zero_le _) rfl (fun v7 => ?_)
          refine j_aload_n (q := 45) hx (dc kX12_backBy_0 26 rfl) rfl 1 rfl rfl ?_
          refine j_iload_n (q := 46) hx (dc kX12_backBy_0 27 rfl) rfl 2 rfl rfl ?_
          refine j_iconst (q := 47) (v := (1 : Int32)) hx (dc kX12_backBy_0 28 rfl) (by decide) rfl ?_
          refine w_cVIR (q := 50) (As := [.int x1, .int (1 : Int32)]) (st := [.int v7]) hx (dc kX12_backBy_0 29 rfl) cf12 (by decide) rfl (cI _ my_X12_its lm_X12_339 (by decide)) vs_X12_its rfl (fun u hu => sX12_its _ _ _ _ _ _ _ hu) (fun e => ite_ne (by unfold mX12_its at e; exact e)) (sum_le (sum_I sum_nil) (by decide)) rfl (fun v9 => ?_)
          refine j_icmp_geS (q := 53) (tgt := 79) hx (dc kX12_backBy_0 30 rfl) (by decide) rfl ?_ ?_
          · exact j_sub [1, 2, 3, 4, 5] rfl (hb79 x0 x1 x2 x3 x4)
          · refine j_iconst (q := 54) (v := (2 : Int32)) hx (dc kX12_backBy_0 31 rfl) (by decide) rfl ?_
            refine j_iload (q := 56) hx (dc kX12_backBy_0 32 rfl) 0 rfl rfl ?_
            refine w_cSIR (q := 59) (As := [.int (v5 &&& x2)]) (st := [.int (2 : Int32)]) hx (dc kX12_backBy_0 33 rfl) (cI _ my_X12_bits lm_X12_315 (by decide)) st_X12_bits rfl (fun u hu => sX12_bits _ _ _ _ _ hu) (sum_le (sum_I sum_nil) (by decide)) rfl (fun v11 => ?_)
            refine j_imul (q := 60) hx (dc kX12_backBy_0 34 rfl) rfl ?_
            refine j_iload_n (q := 61) hx (dc kX12_backBy_0 35 rfl) rfl 3 rfl rfl ?_
            refine w_cSIR (q := 64) (As := [.int x2]) (st := [.int ((2 : Int32) * v11)]) hx (dc kX12_backBy_0 36 rfl) (cI _ my_X12_bits lm_X12_315 (by decide)) st_X12_bits rfl (fun u hu => sX12_bits _ _ _ _ _ hu) (sum_le (sum_I sum_nil) (by decide)) rfl (fun v13 => ?_)
            refine j_icmp_lt (q := 67) (tgt := 79) hx (dc kX12_backBy_0 37 rfl) (by decide) Iff.rfl rfl ?_ ?_
            · exact j_sub [1, 2, 3, 4, 5] rfl (hb79 x0 x1 x2 x3 x4)
            · refine j_iload_n (q := 68) hx (dc kX12_backBy_0 38 rfl) rfl 4 rfl rfl ?_
              refine j_aload_n (q := 69) hx (dc kX12_backBy_0 39 rfl) rfl 1 rfl rfl ?_
              refine w_gR (q := 72) hx (dc kX12_backBy_0 40 rfl) ff_X12_29 lk_X12_61 rfl (fun v15 => ?_)
              refine j_iload (q := 74) hx (dc kX12_backBy_0 41 rfl) 5 rfl rfl ?_
              refine j_ldI (q := 75) hx (dc kX12_backBy_0 42 rfl) rfl (fun v16 => ?_)
              refine w_mmin (q := 78) hx (dc kX12_backBy_0 43 rfl) lm_X12_345 ms_mmin ms_init mc_mmin (by decide) (Nat.zero_le _) rfl ?_
              refine j_istore_n (q := 79) (i := 3) (l2 := [(0, vR x.2.2.2 x0), (1, .int x1), (2, .int x2), (4, .int x4)]) hx (dc kX12_backBy_0 44 rfl) rfl (hn 3 (by decide)) [1, 2, 3, 5] rfl ⟨⟨show (0 : Nat) ≠ 3 by decide, Or.inl (show (0 : Nat) + 1 ≠ 3 by decide)⟩, ⟨⟨show (1 : Nat) ≠ 3 by decide, Or.inl (show (1 : Nat) + 1 ≠ 3 by decide)⟩, ⟨⟨show (2 : Nat) ≠ 3 by decide, Or.inr rfl⟩, ⟨⟨show (4 : Nat) ≠ 3 by decide, Or.inl (show (4 : Nat) + 1 ≠ 3 by decide)⟩, trivial⟩⟩⟩⟩ rfl ?_
              exact j_sub [1, 2, 3, 0, 4] rfl (hb79 x0 x1 x2 (mmin x3 v16) x4)
    exact j_loop (S := (Int32 × Int32)) (lvf := fun s => [(0, vR x.2.2.2 x0), (1, .int x1), (2, .int x2), (3, .int s.1), (4, .int s.2)]) (hpf := fun s => h) (f := (fun s : (Int32 × Int32) => mX12_backBy_l10f x0 x1 x2 h s.1 s.2)) (fun s => hB s.1 s.2) (x3, x4)
  unfold mX12_backBy
  refine J.ckd fun hck => ?_
  refine j_aload_n (q := 1) hx (dc kX12_backBy_0 0 rfl) rfl 0 rfl rfl ?_
  refine j_iload_n (q := 2) hx (dc kX12_backBy_0 1 rfl) rfl 1 rfl rfl ?_
  refine j_iconst (q := 3) (v := (1 : Int32)) hx (dc kX12_backBy_0 2 rfl) (by decide) rfl ?_
  refine w_cVIR (q := 6) (As := [.int x1, .int (1 : Int32)]) (st := []) hx (dc kX12_backBy_0 3 rfl) cf12 (by decide) rfl (cI _ my_X12_its lm_X12_339 (by decide)) vs_X12_its rfl (fun u hu => sX12_its _ _ _ _ _ _ _ hu) (fun e => ite_ne (by unfold mX12_its at e; exact e)) (Nat.zero_le _) rfl (fun v1 => ?_)
  refine j_istore_n (q := 7) (i := 3) (l2 := [(0, vR x.2.2.2 x0), (1, .int x1), (2, .int x2)]) hx (dc kX12_backBy_0 4 rfl) rfl (hn 3 (by decide)) [0, 1, 2] rfl ⟨⟨show (0 : Nat) ≠ 3 by decide, Or.inl (show (0 : Nat) + 1 ≠ 3 by decide)⟩, ⟨⟨show (1 : Nat) ≠ 3 by decide, Or.inl (show (1 : Nat) + 1 ≠ 3 by decide)⟩, ⟨⟨show (2 : Nat) ≠ 3 by decide, Or.inr rfl⟩, trivial⟩⟩⟩ rfl ?_
  refine j_iconst (q := 8) (v := (0 : Int32)) hx (dc kX12_backBy_0 5 rfl) (by decide) rfl ?_
  refine j_istore (q := 10) (i := 4) (l2 := [(3, .int v1), (0, vR x.2.2.2 x0), (1, .int x1), (2, .int x2)]) hx (dc kX12_backBy_0 6 rfl) (hn 4 (by decide)) [0, 1, 2, 3] rfl ⟨⟨show (3 : Nat) ≠ 4 by decide, Or.inr rfl⟩, ⟨⟨show (0 : Nat) ≠ 4 by decide, Or.inl (show (0 : Nat) + 1 ≠ 4 by decide)⟩, ⟨⟨show (1 : Nat) ≠ 4 by decide, Or.inl (show (1 : Nat) + 1 ≠ 4 by decide)⟩, ⟨⟨show (2 : Nat) ≠ 4 by decide, Or.inl (show (2 : Nat) + 1 ≠ 4 by decide)⟩, trivial⟩⟩⟩⟩ rfl ?_
  exact j_sub [2, 3, 4, 1, 0] rfl (hb10 x0 x1 x2 v1 (0 : Int32))

set_option maxHeartbeats 4000000 in
set_option maxRecDepth 100000 in
theorem sX12_laysBacks (l : Launch) (w : Wd) (x0 : Nat) (h : Hp) (u : Hp) (hK : mX12_laysBacks x0 h = some u) : M1 l w mi_X12_laysBacks 3 [vR w x0] h u (none) := by
  refine M1.of (own := RX12) (T := fun _ r => r = u) hK (by decide +kernel) rfl (by first | (simp only [lg_lenR, lg_lenI, lg_lenL, lg_len0]; decide) | decide) (fun x hx hnl hhf hl hw hret hnm hQ h0e => ⟨?_, rfl⟩)
  subst hw
  subst hl
  have hR : Rt x h u (none) (none) := ⟨h0e, hhf, hret, hQ⟩
  have hn : ∀ i, i < 3 → i < x.2.2.1.1.1 := fun i hi => by rw [hnl]; exact hi
  have e0 : lv_args 0 [vR x.2.2.2 x0] = [(0, vR x.2.2.2 x0)] := by simp only [lv_argsR, lv_argsI, lv_argsL, lv_args0]
  rw [e0]
  have hb33 : ∀ (x0 : Nat) (x1 : Int32) (h : Hp), J x 33 [(0, vR x.2.2.2 x0), (1, .int x1)] [] h (mX12_laysBacks_l33 x0 x1 h) (fun r => r = u) := by
    intro x0 x1 h
    have hB : ∀ (x1 : Int32) (h : Hp), J x 33 [(0, vR x.2.2.2 x0), (1, .int x1)] [] h (mX12_laysBacks_l33f x0 x1 h) (TL (S := (Int32 × Hp)) x 33 (fun s => [(0, vR x.2.2.2 x0), (1, .int s.1)]) [] (fun s => s.2) (fun r => r = u)) := by
      intro x1 h
      have hb46 : ∀ (x0 : Nat) (x1 : Int32) (x2 : Int32) (h : Hp), J x 46 [(0, vR x.2.2.2 x0), (1, .int x1), (2, .int x2)] [] h (mX12_laysBacks_l46 x0 x1 x2 h) (TL (S := (Int32 × Hp)) x 33 (fun s => [(0, vR x.2.2.2 x0), (1, .int s.1)]) [] (fun s => s.2) (fun r => r = u)) := by
        intro x0 x1 x2 h
        have hB : ∀ (x2 : Int32) (h : Hp), J x 46 [(0, vR x.2.2.2 x0), (1, .int x1), (2, .int x2)] [] h (mX12_laysBacks_l46f x0 x1 x2 h) (TL (S := (Int32 × Hp)) x 46 (fun s => [(0, vR x.2.2.2 x0), (1, .int x1), (2, .int s.1)]) [] (fun s => s.2) (TL (S := (Int32 × Hp)) x 33 (fun s => [(0, vR x.2.2.2 x0), (1, .int s.1)]) [] (fun s => s.2) (fun r => r = u))) := by
          intro x2 h
          unfold mX12_laysBacks_l46f
          refine j_iload_n (q := 47) hx (dc kX12_laysBacks_0 28 rfl) rfl 2 rfl rfl ?_
          refine j_aload_n (q := 48) hx (dc kX12_laysBacks_0 29 rfl) rfl 0 rfl rfl ?_
          refine w_gR (q := 51) hx (dc kX12_laysBacks_0 30 rfl) ff_X12_4 lk_X12_23 rfl (fun v5 => ?_)
          refine j_bipush (q := 53) (v := (18 : Int32)) hx (dc kX12_laysBacks_0 31 rfl) (by decide) rfl ?_
          refine j_ldI (q := 54) hx (dc kX12_laysBacks_0 32 rfl) rfl (fun v6 => ?_)
          refine j_icmp_geS (q := 57) (tgt := 80) hx (dc kX12_laysBacks_0 33 rfl) (by decide) rfl ?_ ?_
          · refine j_exit ?_
            refine j_iinc (q := 83) (l2 := [(0, vR x.2.2.2 x0)]) hx (dc kX12_laysBacks_0 47 rfl) 1 rfl (v := (1 : Int32)) (by decide) (hn 1 (by decide)) [0] rfl ⟨⟨show (0 : Nat) ≠ 1 by decide, Or.inr (vR_cat _ _)⟩, trivial⟩ rfl ?_
            refine j_goto (q := 33) hx (dc kX12_laysBacks_0 48 rfl) (by decide) ?_
            exact j_back [1, 0] ((x1 + (1 : Int32)), h) rfl rfl
          · refine j_aload_n (q := 58) hx (dc kX12_laysBacks_0 34 rfl) rfl 0 rfl rfl ?_
            refine w_gR (q := 61) hx (dc kX12_laysBacks_0 35 rfl) ff_X12_29 lk_X12_61 rfl (fun v7 => ?_)
            refine j_iload_n (q := 62) hx (dc kX12_laysBacks_0 36 rfl) rfl 2 rfl rfl ?_
            refine j_aload_n (q := 63) hx (dc kX12_laysBacks_0 37 rfl) rfl 0 rfl rfl ?_
            refine j_iload_n (q := 64) hx (dc kX12_laysBacks_0 38 rfl) rfl 2 rfl rfl ?_
            refine j_aload_n (q := 65) hx (dc kX12_laysBacks_0 39 rfl) rfl 0 rfl rfl ?_
            refine j_iload_n (q := 66) hx (dc kX12_laysBacks_0 40 rfl) rfl 2 rfl rfl ?_
            refine j_iconst (q := 67) (v := (4 : Int32)) hx (dc kX12_laysBacks_0 41 rfl) (by decide) rfl ?_
            refine w_cVIR (q := 70) (As := [.int x2, .int (4 : Int32)]) (st := [.int x2, vR x.2.2.2 x0, .int x2, vR x.2.2.2 v7]) hx (dc kX12_laysBacks_0 42 rfl) cf12 (by decide) rfl (cI _ my_X12_its lm_X12_339 (by decide)) vs_X12_its rfl (fun u hu => sX12_its _ _ _ _ _ _ _ hu) (fun e => ite_ne (by unfold mX12_its at e; exact e)) (sum_le (sum_I (sum_R (sum_I (sum_R sum_nil)))) (by decide)) rfl (fun v8 => ?_)
            refine w_cVIR (q := 73) (As := [.int x2, .int v8]) (st := [.int x2, vR x.2.2.2 v7]) hx (dc kX12_laysBacks_0 43 rfl) cf12 (by decide) rfl (cI _ my_X12_backBy lm_X12_350 (by decide)) vs_X12_backBy rfl (fun u hu => sX12_backBy _ _ _ _ _ _ _ hu) (fun e => ite_ne (by unfold mX12_backBy at e; exact e)) (sum_le (sum_I (sum_R sum_nil)) (by decide)) rfl (fun v10 => ?_)
            refine w_stI (q := 74) hx (dc kX12_laysBacks_0 44 rfl) rfl (fun h12 => ?_)
            refine j_iinc (q := 77) (l2 := [(0, vR x.2.2.2 x0), (1, .int x1)]) hx (dc kX12_laysBacks_0 45 rfl) 2 rfl (v := (1 : Int32)) (by decide) (hn 2 (by decide)) [0, 1] rfl ⟨⟨show (0 : Nat) ≠ 2 by decide, Or.inl (show (0 : Nat) + 1 ≠ 2 by decide)⟩, ⟨⟨show (1 : Nat) ≠ 2 by decide, Or.inr rfl⟩, trivial⟩⟩ rfl ?_
            refine j_goto (q := 46) hx (dc kX12_laysBacks_0 46 rfl) (by decide) ?_
            exact j_back [1, 2, 0] ((x2 + (1 : Int32)), h12) rfl rfl
        exact j_loop (S := (Int32 × Hp)) (lvf := fun s => [(0, vR x.2.2.2 x0), (1, .int x1), (2, .int s.1)]) (hpf := fun s => s.2) (f := (fun s : (Int32 × Hp) => mX12_laysBacks_l46f x0 x1 s.1 s.2)) (fun s => hB s.1 s.2) (x2, h)
      unfold mX12_laysBacks_l33f
      refine j_iload_n (q := 34) hx (dc kX12_laysBacks_0 20 rfl) rfl 1 rfl rfl ?_
      refine j_aload_n (q := 35) hx (dc kX12_laysBacks_0 21 rfl) rfl 0 rfl rfl ?_
      refine w_gR (q := 38) hx (dc kX12_laysBacks_0 22 rfl) ff_X12_4 lk_X12_23 rfl (fun v3 => ?_)
      refine j_bipush (q := 40) (v := (18 : Int32)) hx (dc kX12_laysBacks_0 23 rfl) (by decide) rfl ?_
      refine j_ldI (q := 41) hx (dc kX12_laysBacks_0 24 rfl) rfl (fun v4 => ?_)
      refine j_icmp_geS (q := 44) (tgt := 86) hx (dc kX12_laysBacks_0 25 rfl) (by decide) rfl ?_ ?_
      · refine j_exit ?_
        exact r_vW hx hR (dc kX12_laysBacks_0 49 rfl)
      · refine j_iconst (q := 45) (v := (0 : Int32)) hx (dc kX12_laysBacks_0 26 rfl) (by decide) rfl ?_
        refine j_istore_n (q := 46) (i := 2) (l2 := [(0, vR x.2.2.2 x0), (1, .int x1)]) hx (dc kX12_laysBacks_0 27 rfl) rfl (hn 2 (by decide)) [0, 1] rfl ⟨⟨show (0 : Nat) ≠ 2 by decide, Or.inl (show (0 : Nat) + 1 ≠ 2 by decide)⟩, ⟨⟨show (1 : Nat) ≠ 2 by decide, Or.inr rfl⟩, trivial⟩⟩ rfl ?_
        exact j_sub [1, 2, 0] rfl (hb46 x0 x1 (0 : Int32) h)
    exact j_loop (S := (Int32 × Hp)) (lvf := fun s => [(0, vR x.2.2.2 x0), (1, .int s.1)]) (hpf := fun s => s.2) (f := (fun s : (Int32 × Hp) => mX12_laysBacks_l33f x0 s.1 s.2)) (fun s => hB s.1 s.2) (x1, h)
  have hb2 : ∀ (x0 : Nat) (x1 : Int32) (h : Hp), J x 2 [(0, vR x.2.2.2 x0), (1, .int x1)] [] h (mX12_laysBacks_l2 x0 x1 h) (fun r => r = u) := by
    intro x0 x1 h
    have hB : ∀ (x1 : Int32) (h : Hp), J x 2 [(0, vR x.2.2.2 x0), (1, .int x1)] [] h (mX12_laysBacks_l2f x0 x1 h) (TL (S := (Int32 × Hp)) x 2 (fun s => [(0, vR x.2.2.2 x0), (1, .int s.1)]) [] (fun s => s.2) (fun r => r = u)) := by
      intro x1 h
      unfold mX12_laysBacks_l2f
      refine j_iload_n (q := 3) hx (dc kX12_laysBacks_0 2 rfl) rfl 1 rfl rfl ?_
      refine j_aload_n (q := 4) hx (dc kX12_laysBacks_0 3 rfl) rfl 0 rfl rfl ?_
      refine w_gR (q := 7) hx (dc kX12_laysBacks_0 4 rfl) ff_X12_4 lk_X12_23 rfl (fun v1 => ?_)
      refine j_bipush (q := 9) (v := (18 : Int32)) hx (dc kX12_laysBacks_0 5 rfl) (by decide) rfl ?_
      refine j_ldI (q := 10) hx (dc kX12_laysBacks_0 6 rfl) rfl (fun v2 => ?_)
      refine j_icmp_geS (q := 13) (tgt := 31) hx (dc kX12_laysBacks_0 7 rfl) (by decide) rfl ?_ ?_
      · refine j_exit ?_
        refine j_iconst (q := 32) (v := (1 : Int32)) hx (dc kX12_laysBacks_0 18 rfl) (by decide) rfl ?_
        refine j_istore_n (q := 33) (i := 1) (l2 := [(0, vR x.2.2.2 x0)]) hx (dc kX12_laysBacks_0 19 rfl) rfl (hn 1 (by decide)) [0] rfl ⟨⟨show (0 : Nat) ≠ 1 by decide, Or.inr (vR_cat _ _)⟩, trivial⟩ rfl ?_
        exact j_sub [1, 0] rfl (hb33 x0 (1 : Int32) h)
      · refine j_aload_n (q := 14) hx (dc kX12_laysBacks_0 8 rfl) rfl 0 rfl rfl ?_
        refine w_gR (q := 17) hx (dc kX12_laysBacks_0 9 rfl) ff_X12_29 lk_X12_61 rfl (fun v13 => ?_)
        refine j_iload_n (q := 18) hx (dc kX12_laysBacks_0 10 rfl) rfl 1 rfl rfl ?_
        refine j_aload_n (q := 19) hx (dc kX12_laysBacks_0 11 rfl) rfl 0 rfl rfl ?_
        refine j_iload_n (q := 20) hx (dc kX12_laysBacks_0 12 rfl) rfl 1 rfl rfl ?_
        refine j_iconst (q := 21) (v := (1 : Int32)) hx (dc kX12_laysBacks_0 13 rfl) (by decide) rfl ?_
        refine w_cVIR (q := 24) (As := [.int x1, .int (1 : Int32)]) (st := [.int x1, vR x.2.2.2 v13]) hx (dc kX12_laysBacks_0 14 rfl) cf12 (by decide) rfl (cI _ my_X12_its lm_X12_339 (by decide)) vs_X12_its rfl (fun u hu => sX12_its _ _ _ _ _ _ _ hu) (fun e => ite_ne (by unfold mX12_its at e; exact e)) (sum_le (sum_I (sum_R sum_nil)) (by decide)) rfl (fun v14 => ?_)
        refine w_stI (q := 25) hx (dc kX12_laysBacks_0 15 rfl) rfl (fun h16 => ?_)
        refine j_iinc (q := 28) (l2 := [(0, vR x.2.2.2 x0)]) hx (dc kX12_laysBacks_0 16 rfl) 1 rfl (v := (1 : Int32)) (by decide) (hn 1 (by decide)) [0] rfl ⟨⟨show (0 : Nat) ≠ 1 by decide, Or.inr (vR_cat _ _)⟩, trivial⟩ rfl ?_
        refine j_goto (q := 2) hx (dc kX12_laysBacks_0 17 rfl) (by decide) ?_
        exact j_back [1, 0] ((x1 + (1 : Int32)), h16) rfl rfl
    exact j_loop (S := (Int32 × Hp)) (lvf := fun s => [(0, vR x.2.2.2 x0), (1, .int s.1)]) (hpf := fun s => s.2) (f := (fun s : (Int32 × Hp) => mX12_laysBacks_l2f x0 s.1 s.2)) (fun s => hB s.1 s.2) (x1, h)
  unfold mX12_laysBacks
  refine J.ckd fun hck => ?_
  refine j_iconst (q := 1) (v := (0 : Int32)) hx (dc kX12_laysBacks_0 0 rfl) (by decide) rfl ?_
  refine j_istore_n (q := 2) (i := 1) (l2 := [(0, vR x.2.2.2 x0)]) hx (dc kX12_laysBacks_0 1 rfl) rfl (hn 1 (by decide)) [0] rfl ⟨⟨show (0 : Nat) ≠ 1 by decide, Or.inr (vR_cat _ _)⟩, trivial⟩ rfl ?_
  exact j_sub [1, 0] rfl (hb2 x0 (0 : Int32) h)

set_option maxHeartbeats 4000000 in
set_option maxRecDepth 100000 in
theorem sX12_failsBy (l : Launch) (w : Wd) (x0 : Nat) (x1 : Int32) (x2 : Int32) (x3 : Int32) (h : Hp) (u : (Int32 × Hp)) (hK : mX12_failsBy x0 x1 x2 x3 h = some u) : M1 l w mi_X12_failsBy 4 [vR w x0, .int x1, .int x2, .int x3] h u.2 (some (.int u.1)) := by
  refine M1.of (own := RX12) (T := fun _ r => r = u) hK (by decide +kernel) rfl (by first | (simp only [lg_lenR, lg_lenI, lg_lenL, lg_len0]; decide) | decide) (fun x hx hnl hhf hl hw hret hnm hQ h0e => ⟨?_, rfl⟩)
  subst hw
  subst hl
  have hR : Rt x h u.2 (some (.int u.1)) ((some .int)) := ⟨h0e, hhf, hret, hQ⟩
  have hn : ∀ i, i < 7 → i < x.2.2.1.1.1 := fun i hi => by rw [hnl]; exact hi
  have e0 : lv_args 0 [vR x.2.2.2 x0, .int x1, .int x2, .int x3] = [(0, vR x.2.2.2 x0), (1, .int x1), (2, .int x2), (3, .int x3)] := by simp only [lv_argsR, lv_argsI, lv_argsL, lv_args0]
  rw [e0]
  have hb130 : ∀ (x4 : Int32) (h : Hp), J x 130 [(4, .int x4)] [] h (mX12_failsBy_b130 x4 h) (fun r => r = u) := by
    intro x4 h
    unfold mX12_failsBy_b130
    refine j_iload (q := 132) hx (dc kX12_failsBy_1 3 rfl) 0 rfl rfl ?_
    refine j_if_eq (q := 135) (tgt := 139) hx (dc kX12_failsBy_1 4 rfl) (by decide) Iff.rfl rfl ?_ ?_
    · refine j_iconst (q := 140) (v := (4 : Int32)) hx (dc kX12_failsBy_1 7 rfl) (by decide) rfl ?_
      exact r_iW hx hR (dc kX12_failsBy_1 8 rfl)
    · refine j_iconst (q := 136) (v := (3 : Int32)) hx (dc kX12_failsBy_1 5 rfl) (by decide) rfl ?_
      refine j_goto (q := 140) hx (dc kX12_failsBy_1 6 rfl) (by decide) ?_
      exact r_iW hx hR (dc kX12_failsBy_1 8 rfl)
  have hb144 : ∀ (x0 : Nat) (x1 : Int32) (x2 : Int32) (x6 : Int32) (h : Hp), J x 144 [(0, vR x.2.2.2 x0), (1, .int x1), (2, .int x2), (6, .int x6)] [] h (mX12_failsBy_l144 x0 x1 x2 x6 h) (fun r => r = u) := by
    intro x0 x1 x2 x6 h
    have hB : ∀ (x6 : Int32), J x 144 [(0, vR x.2.2.2 x0), (1, .int x1), (2, .int x2), (6, .int x6)] [] h (mX12_failsBy_l144f x0 x1 x2 h x6) (TL (S := Int32) x 144 (fun s => [(0, vR x.2.2.2 x0), (1, .int x1), (2, .int x2), (6, .int s)]) [] (fun s => h) (fun r => r = u)) := by
      intro x6
      unfold mX12_failsBy_l144f
      refine j_iload (q := 146) hx (dc kX12_failsBy_1 11 rfl) 3 rfl rfl ?_
      refine j_aload_n (q := 147) hx (dc kX12_failsBy_1 12 rfl) rfl 0 rfl rfl ?_
      refine j_iload_n (q := 148) hx (dc kX12_failsBy_1 13 rfl) rfl 1 rfl rfl ?_
      refine w_cVIR (q := 151) (As := [.int x1]) (st := [.int x6]) hx (dc kX12_failsBy_1 14 rfl) cf12 (by decide) rfl (cI _ my_X12_bars lm_X12_361 (by decide)) vs_X12_bars rfl (fun u hu => sX12_bars _ _ _ _ _ _ hu) (fun e => ite_ne (by unfold mX12_bars at e; exact e)) (sum_le (sum_I sum_nil) (by decide)) rfl (fun v11 => ?_)
      refine j_icmp_geS (q := 154) (tgt := 198) hx (dc kX12_failsBy_1 15 rfl) (by decide) rfl ?_ ?_
      · refine j_exit ?_
        refine j_aload_n (q := 199) hx (dc kX12_failsBy_1 38 rfl) rfl 0 rfl rfl ?_
        refine j_iload_n (q := 200) hx (dc kX12_failsBy_1 39 rfl) rfl 1 rfl rfl ?_
        refine j_iconst (q := 201) (v := (3 : Int32)) hx (dc kX12_failsBy_1 40 rfl) (by decide) rfl ?_
        refine w_cVIR (q := 204) (As := [.int x1, .int (3 : Int32)]) (st := []) hx (dc kX12_failsBy_1 41 rfl) cf12 (by decide) rfl (cI _ my_X12_its lm_X12_339 (by decide)) vs_X12_its rfl (fun u hu => sX12_its _ _ _ _ _ _ _ hu) (fun e => ite_ne (by unfold mX12_its at e; exact e)) (Nat.zero_le _) rfl (fun v13 => ?_)
        refine j_aload_n (q := 205) hx (dc kX12_failsBy_1 42 rfl) rfl 0 rfl rfl ?_
        refine j_iload_n (q := 206) hx (dc kX12_failsBy_1 43 rfl) rfl 1 rfl rfl ?_
        refine j_iload_n (q := 207) hx (dc kX12_failsBy_1 44 rfl) rfl 2 rfl rfl ?_
        refine w_cVIR (q := 210) (As := [.int x1, .int x2]) (st := [.int v13]) hx (dc kX12_failsBy_1 45 rfl) cf12 (by decide) rfl (cI _ my_X12_backBy lm_X12_350 (by decide)) vs_X12_backBy rfl (fun u hu => sX12_backBy _ _ _ _ _ _ _ hu) (fun e => ite_ne (by unfold mX12_backBy at e; exact e)) (sum_le (sum_I sum_nil) (by decide)) rfl (fun v15 => ?_)
        refine j_iadd (q := 211) hx (dc kX12_failsBy_1 46 rfl) rfl ?_
        refine j_aload_n (q := 212) hx (dc kX12_failsBy_1 47 rfl) rfl 0 rfl rfl ?_
        refine w_gR (q := 215) hx (dc kX12_failsBy_1 48 rfl) ff_X12_0 lk_X12_7 rfl (fun v17 => ?_)
        refine j_iconst (q := 216) (v := (5 : Int32)) hx (dc kX12_failsBy_1 49 rfl) (by decide) rfl ?_
        refine j_ldI (q := 217) hx (dc kX12_failsBy_1 50 rfl) rfl (fun v18 => ?_)
        refine j_icmp_leS (q := 220) (tgt := 225) hx (dc kX12_failsBy_1 51 rfl) (by decide) rfl ?_ ?_
        · refine j_iconst (q := 226) (v := (0 : Int32)) hx (dc kX12_failsBy_1 54 rfl) (by decide) rfl ?_
          exact r_iW hx hR (dc kX12_failsBy_1 55 rfl)
        · refine j_bipush (q := 222) (v := (6 : Int32)) hx (dc kX12_failsBy_1 52 rfl) (by decide) rfl ?_
          refine j_goto (q := 226) hx (dc kX12_failsBy_1 53 rfl) (by decide) ?_
          exact r_iW hx hR (dc kX12_failsBy_1 55 rfl)
      · refine j_aload_n (q := 155) hx (dc kX12_failsBy_1 16 rfl) rfl 0 rfl rfl ?_
        refine j_aload_n (q := 156) hx (dc kX12_failsBy_1 17 rfl) rfl 0 rfl rfl ?_
        refine w_gR (q := 159) hx (dc kX12_failsBy_1 18 rfl) ff_X12_28 lk_X12_58 rfl (fun v19 => ?_)
        refine j_aload_n (q := 160) hx (dc kX12_failsBy_1 19 rfl) rfl 0 rfl rfl ?_
        refine j_iload_n (q := 161) hx (dc kX12_failsBy_1 20 rfl) rfl 1 rfl rfl ?_
        refine j_iload (q := 163) hx (dc kX12_failsBy_1 21 rfl) 3 rfl rfl ?_
        refine w_cVIR (q := 166) (As := [.int x1, .int x6]) (st := [vR x.2.2.2 v19, vR x.2.2.2 x0]) hx (dc kX12_failsBy_1 22 rfl) cf12 (by decide) rfl (cI _ my_X12_barOf lm_X12_342 (by decide)) vs_X12_barOf rfl (fun u hu => sX12_barOf _ _ _ _ _ _ _ hu) (fun e => ite_ne (by unfold mX12_barOf at e; exact e)) (sum_le (sum_R (sum_R sum_nil)) (by decide)) rfl (fun v20 => ?_)
        refine w_cVIR (q := 169) (As := [vR x.2.2.2 v19, .int v20]) (st := []) hx (dc kX12_failsBy_1 23 rfl) cf12 (by decide) rfl (cI _ my_X12_isSure lm_X12_358 (by decide)) vs_X12_isSure rfl (fun u hu => sX12_isSure _ _ _ _ _ _ _ hu) (fun e => ite_ne (by unfold mX12_isSure at e; exact e)) (Nat.zero_le _) rfl (fun v22 => ?_)
        refine j_if_neS (q := 172) (tgt := 190) hx (dc kX12_failsBy_1 24 rfl) (by decide) rfl ?_ ?_
        · refine j_exit ?_
          refine j_iconst (q := 191) (v := (5 : Int32)) hx (dc kX12_failsBy_1 34 rfl) (by decide) rfl ?_
          exact r_iW hx hR (dc kX12_failsBy_1 35 rfl)
        · refine j_aload_n (q := 173) hx (dc kX12_failsBy_1 25 rfl) rfl 0 rfl rfl ?_
          refine j_aload_n (q := 174) hx (dc kX12_failsBy_1 26 rfl) rfl 0 rfl rfl ?_
          refine w_gR (q := 177) hx (dc kX12_failsBy_1 27 rfl) ff_X12_27 lk_X12_55 rfl (fun v24 => ?_)
          refine j_aload_n (q := 178) hx (dc kX12_failsBy_1 28 rfl) rfl 0 rfl rfl ?_
          refine j_iload_n (q := 179) hx (dc kX12_failsBy_1 29 rfl) rfl 1 rfl rfl ?_
          refine j_iload (q := 181) hx (dc kX12_failsBy_1 30 rfl) 3 rfl rfl ?_
          refine w_cVIR (q := 184) (As := [.int x1, .int x6]) (st := [vR x.2.2.2 v24, vR x.2.2.2 x0]) hx (dc kX12_failsBy_1 31 rfl) cf12 (by decide) rfl (cI _ my_X12_barOf lm_X12_342 (by decide)) vs_X12_barOf rfl (fun u hu => sX12_barOf _ _ _ _ _ _ _ hu) (fun e => ite_ne (by unfold mX12_barOf at e; exact e)) (sum_le (sum_R (sum_R sum_nil)) (by decide)) rfl (fun v25 => ?_)
          refine w_cVIR (q := 187) (As := [vR x.2.2.2 v24, .int v25]) (st := []) hx (dc kX12_failsBy_1 32 rfl) cf12 (by decide) rfl (cI _ my_X12_isSure lm_X12_358 (by decide)) vs_X12_isSure rfl (fun u hu => sX12_isSure _ _ _ _ _ _ _ hu) (fun e => ite_ne (by unfold mX12_isSure at e; exact e)) (Nat.zero_le _) rfl (fun v27 => ?_)
          refine j_if_eq (q := 190) (tgt := 192) hx (dc kX12_failsBy_1 33 rfl) (by decide) Iff.rfl rfl ?_ ?_
          · refine j_iinc (q := 195) (l2 := [(0, vR x.2.2.2 x0), (1, .int x1), (2, .int x2)]) hx (dc kX12_failsBy_1 36 rfl) 3 rfl (v := (1 : Int32)) (by decide) (hn 6 (by decide)) [0, 1, 2] rfl ⟨⟨show (0 : Nat) ≠ 6 by decide, Or.inl (show (0 : Nat) + 1 ≠ 6 by decide)⟩, ⟨⟨show (1 : Nat) ≠ 6 by decide, Or.inl (show (1 : Nat) + 1 ≠ 6 by decide)⟩, ⟨⟨show (2 : Nat) ≠ 6 by decide, Or.inl (show (2 : Nat) + 1 ≠ 6 by decide)⟩, trivial⟩⟩⟩ rfl ?_
            refine j_goto (q := 144) hx (dc kX12_failsBy_1 37 rfl) (by decide) ?_
            exact j_back [1, 2, 3, 0] (x6 + (1 : Int32)) rfl rfl
          · refine j_exit ?_
            refine j_iconst (q := 191) (v := (5 : Int32)) hx (dc kX12_failsBy_1 34 rfl) (by decide) rfl ?_
            exact r_iW hx hR (dc kX12_failsBy_1 35 rfl)
    exact j_loop (S := Int32) (lvf := fun s => [(0, vR x.2.2.2 x0), (1, .int x1), (2, .int x2), (6, .int s)]) (hpf := fun s => h) (f := (fun s : Int32 => mX12_failsBy_l144f x0 x1 x2 h s)) (fun s => hB s) x6
  have hb44 : ∀ (x0 : Nat) (x1 : Int32) (x2 : Int32) (x4 : Int32) (x5 : Int32) (x6 : Int32) (h : Hp), J x 44 [(0, vR x.2.2.2 x0), (1, .int x1), (2, .int x2), (4, .int x4), (5, .int x5), (6, .int x6)] [] h (mX12_failsBy_l44 x0 x1 x2 x4 x5 x6 h) (fun r => r = u) := by
    intro x0 x1 x2 x4 x5 x6 h
    have hB : ∀ (x4 : Int32) (x5 : Int32) (x6 : Int32), J x 44 [(0, vR x.2.2.2 x0), (1, .int x1), (2, .int x2), (4, .int x4), (5, .int x5), (6, .int x6)] [] h (mX12_failsBy_l44f x0 x1 x2 h x4 x5 x6) (TL (S := (Int32 × Int32 × Int32)) x 44 (fun s => [(0, vR x.2.2.2 x0), (1, .int x1), (2, .int x2), (4, .int s.1), (5, .int s.2.1), (6, .int s.2.2)]) [] (fun s => h) (fun r => r = u)) := by
      intro x4 x5 x6
      have hb112 : ∀ (x0 : Nat) (x1 : Int32) (x2 : Int32) (x4 : Int32) (x6 : Int32) (t0 : Int32) (h : Hp), J x 112 [(0, vR x.2.2.2 x0), (1, .int x1), (2, .int x2), (4, .int x4), (6, .int x6)] [.int t0] h (mX12_failsBy_b112 x0 x1 x2 x4 x6 t0 h) (TL (S := (Int32 × Int32 × Int32)) x 44 (fun s => [(0, vR x.2.2.2 x0), (1, .int x1), (2, .int x2), (4, .int s.1), (5, .int s.2.1), (6, .int s.2.2)]) [] (fun s => h) (fun r => r = u)) := by
        intro x0 x1 x2 x4 x6 t0 h
        unfold mX12_failsBy_b112
        refine j_istore (q := 114) (i := 5) (l2 := [(0, vR x.2.2.2 x0), (1, .int x1), (2, .int x2), (4, .int x4), (6, .int x6)]) hx (dc kX12_failsBy_0 60 rfl) (hn 5 (by decide)) [0, 1, 2, 3, 4] rfl ⟨⟨show (0 : Nat) ≠ 5 by decide, Or.inl (show (0 : Nat) + 1 ≠ 5 by decide)⟩, ⟨⟨show (1 : Nat) ≠ 5 by decide, Or.inl (show (1 : Nat) + 1 ≠ 5 by decide)⟩, ⟨⟨show (2 : Nat) ≠ 5 by decide, Or.inl (show (2 : Nat) + 1 ≠ 5 by decide)⟩, ⟨⟨show (4 : Nat) ≠ 5 by decide, Or.inr rfl⟩, ⟨⟨show (6 : Nat) ≠ 5 by decide, Or.inl (show (6 : Nat) + 1 ≠ 5 by decide)⟩, trivial⟩⟩⟩⟩⟩ rfl ?_
        refine j_iinc (q := 117) (l2 := [(5, .int t0), (0, vR x.2.2.2 x0), (1, .int x1), (2, .int x2), (4, .int x4)]) hx (dc kX12_failsBy_0 61 rfl) 5 rfl (v := (1 : Int32)) (by decide) (hn 6 (by decide)) [0, 1, 2, 3, 4] rfl ⟨⟨show (5 : Nat) ≠ 6 by decide, Or.inr rfl⟩, ⟨⟨show (0 : Nat) ≠ 6 by decide, Or.inl (show (0 : Nat) + 1 ≠ 6 by decide)⟩, ⟨⟨show (1 : Nat) ≠ 6 by decide, Or.inl (show (1 : Nat) + 1 ≠ 6 by decide)⟩, ⟨⟨show (2 : Nat) ≠ 6 by decide, Or.inl (show (2 : Nat) + 1 ≠ 6 by decide)⟩, ⟨⟨show (4 : Nat) ≠ 6 by decide, Or.inl (show (4 : Nat) + 1 ≠ 6 by decide)⟩, trivial⟩⟩⟩⟩⟩ rfl ?_
        refine j_goto (q := 44) hx (dc kX12_failsBy_0 62 rfl) (by decide) ?_
        exact j_back [2, 3, 4, 5, 1, 0] (x4, t0, (x6 + (1 : Int32))) rfl rfl
      have hb107 : ∀ (x0 : Nat) (x1 : Int32) (x2 : Int32) (x4 : Int32) (x6 : Int32) (h : Hp), J x 107 [(0, vR x.2.2.2 x0), (1, .int x1), (2, .int x2), (4, .int x4), (6, .int x6)] [] h (mX12_failsBy_b107 x0 x1 x2 x4 x6 h) (TL (S := (Int32 × Int32 × Int32)) x 44 (fun s => [(0, vR x.2.2.2 x0), (1, .int x1), (2, .int x2), (4, .int s.1), (5, .int s.2.1), (6, .int s.2.2)]) [] (fun s => h) (fun r => r = u)) := by
        intro x0 x1 x2 x4 x6 h
        unfold mX12_failsBy_b107
        refine j_iconst (q := 108) (v := (1 : Int32)) hx (dc kX12_failsBy_0 57 rfl) (by decide) rfl ?_
        refine j_goto (q := 112) hx (dc kX12_failsBy_0 58 rfl) (by decide) ?_
        exact hb112 x0 x1 x2 x4 x6 (1 : Int32) h
      have hb82 : ∀ (x0 : Nat) (x1 : Int32) (x2 : Int32) (x5 : Int32) (x6 : Int32) (t0 : Int32) (h : Hp), J x 82 [(0, vR x.2.2.2 x0), (1, .int x1), (2, .int x2), (5, .int x5), (6, .int x6)] [.int t0] h (mX12_failsBy_b82 x0 x1 x2 x5 x6 t0 h) (TL (S := (Int32 × Int32 × Int32)) x 44 (fun s => [(0, vR x.2.2.2 x0), (1, .int x1), (2, .int x2), (4, .int s.1), (5, .int s.2.1), (6, .int s.2.2)]) [] (fun s => h) (fun r => r = u)) := by
        intro x0 x1 x2 x5 x6 t0 h
        unfold mX12_failsBy_b82
        refine j_istore (q := 84) (i := 4) (l2 := [(0, vR x.2.2.2 x0), (1, .int x1), (2, .int x2), (5, .int x5), (6, .int x6)]) hx (dc kX12_failsBy_0 45 rfl) (hn 4 (by decide)) [0, 1, 2, 3, 4] rfl ⟨⟨show (0 : Nat) ≠ 4 by decide, Or.inl (show (0 : Nat) + 1 ≠ 4 by decide)⟩, ⟨⟨show (1 : Nat) ≠ 4 by decide, Or.inl (show (1 : Nat) + 1 ≠ 4 by decide)⟩, ⟨⟨show (2 : Nat) ≠ 4 by decide, Or.inl (show (2 : Nat) + 1 ≠ 4 by decide)⟩, ⟨⟨show (5 : Nat) ≠ 4 by decide, Or.inl (show (5 : Nat) + 1 ≠ 4 by decide)⟩, ⟨⟨show (6 : Nat) ≠ 4 by decide, Or.inl (show (6 : Nat) + 1 ≠ 4 by decide)⟩, trivial⟩⟩⟩⟩⟩ rfl ?_
        refine j_iload (q := 86) hx (dc kX12_failsBy_0 46 rfl) 4 rfl rfl ?_
        refine j_if_neS (q := 89) (tgt := 107) hx (dc kX12_failsBy_0 47 rfl) (by decide) rfl ?_ ?_
        · exact j_sub [1, 2, 3, 0, 5] rfl (hb107 x0 x1 x2 t0 x6 h)
        · refine j_aload_n (q := 90) hx (dc kX12_failsBy_0 48 rfl) rfl 1 rfl rfl ?_
          refine j_aload_n (q := 91) hx (dc kX12_failsBy_0 49 rfl) rfl 1 rfl rfl ?_
          refine w_gR (q := 94) hx (dc kX12_failsBy_0 50 rfl) ff_X12_27 lk_X12_55 rfl (fun v29 => ?_)
          refine j_aload_n (q := 95) hx (dc kX12_failsBy_0 51 rfl) rfl 1 rfl rfl ?_
          refine j_iload_n (q := 96) hx (dc kX12_failsBy_0 52 rfl) rfl 2 rfl rfl ?_
          refine j_iload (q := 98) hx (dc kX12_failsBy_0 53 rfl) 5 rfl rfl ?_
          refine w_cVIR (q := 101) (As := [.int x1, .int x6]) (st := [vR x.2.2.2 v29, vR x.2.2.2 x0]) hx (dc kX12_failsBy_0 54 rfl) cf12 (by decide) rfl (cI _ my_X12_need lm_X12_355 (by decide)) vs_X12_need rfl (fun u hu => sX12_need _ _ _ _ _ _ _ hu) (fun e => ite_ne (by unfold mX12_need at e; exact e)) (sum_le (sum_R (sum_R sum_nil)) (by decide)) rfl (fun v30 => ?_)
          refine w_cVIR (q := 104) (As := [vR x.2.2.2 v29, .int v30]) (st := []) hx (dc kX12_failsBy_0 55 rfl) cf12 (by decide) rfl (cI _ my_X12_holdsIn lm_X12_318 (by decide)) vs_X12_holdsIn rfl (fun u hu => sX12_holdsIn _ _ _ _ _ _ _ hu) (fun e => ite_ne (by unfold mX12_holdsIn at e; exact e)) (Nat.zero_le _) rfl (fun v32 => ?_)
          refine j_if_neS (q := 107) (tgt := 111) hx (dc kX12_failsBy_0 56 rfl) (by decide) rfl ?_ ?_
          · refine j_iconst (q := 112) (v := (0 : Int32)) hx (dc kX12_failsBy_0 59 rfl) (by decide) rfl ?_
            exact j_sub [1, 2, 3, 0, 5] rfl (hb112 x0 x1 x2 t0 x6 (0 : Int32) h)
          · exact j_sub [1, 2, 3, 0, 5] rfl (hb107 x0 x1 x2 t0 x6 h)
      have hb77 : ∀ (x0 : Nat) (x1 : Int32) (x2 : Int32) (x5 : Int32) (x6 : Int32) (h : Hp), J x 77 [(0, vR x.2.2.2 x0), (1, .int x1), (2, .int x2), (5, .int x5), (6, .int x6)] [] h (mX12_failsBy_b77 x0 x1 x2 x5 x6 h) (TL (S := (Int32 × Int32 × Int32)) x 44 (fun s => [(0, vR x.2.2.2 x0), (1, .int x1), (2, .int x2), (4, .int s.1), (5, .int s.2.1), (6, .int s.2.2)]) [] (fun s => h) (fun r => r = u)) := by
        intro x0 x1 x2 x5 x6 h
        unfold mX12_failsBy_b77
        refine j_iconst (q := 78) (v := (1 : Int32)) hx (dc kX12_failsBy_0 42 rfl) (by decide) rfl ?_
        refine j_goto (q := 82) hx (dc kX12_failsBy_0 43 rfl) (by decide) ?_
        exact hb82 x0 x1 x2 x5 x6 (1 : Int32) h
      unfold mX12_failsBy_l44f
      refine j_iload (q := 46) hx (dc kX12_failsBy_0 26 rfl) 5 rfl rfl ?_
      refine j_aload_n (q := 47) hx (dc kX12_failsBy_0 27 rfl) rfl 0 rfl rfl ?_
      refine j_iload_n (q := 48) hx (dc kX12_failsBy_0 28 rfl) rfl 1 rfl rfl ?_
      refine w_cVIR (q := 51) (As := [.int x1]) (st := [.int x6]) hx (dc kX12_failsBy_0 29 rfl) cf12 (by decide) rfl (cI _ my_X12_needs lm_X12_353 (by decide)) vs_X12_needs rfl (fun u hu => sX12_needs _ _ _ _ _ _ hu) (fun e => ite_ne (by unfold mX12_needs at e; exact e)) (sum_le (sum_I sum_nil) (by decide)) rfl (fun v9 => ?_)
      refine j_icmp_geS (q := 54) (tgt := 120) hx (dc kX12_failsBy_0 30 rfl) (by decide) rfl ?_ ?_
      · refine j_exit ?_
        refine j_iload (q := 122) hx (dc kX12_failsBy_0 63 rfl) 3 rfl rfl ?_
        refine j_if_neS (q := 125) (tgt := 130) hx (dc kX12_failsBy_1 0 rfl) (by decide) rfl ?_ ?_
        · exact j_sub [3] rfl (hb130 x4 h)
        · refine j_iload (q := 127) hx (dc kX12_failsBy_1 1 rfl) 4 rfl rfl ?_
          refine j_if_eq (q := 130) (tgt := 141) hx (dc kX12_failsBy_1 2 rfl) (by decide) Iff.rfl rfl ?_ ?_
          · refine j_iconst (q := 142) (v := (0 : Int32)) hx (dc kX12_failsBy_1 9 rfl) (by decide) rfl ?_
            refine j_istore (q := 144) (i := 6) (l2 := [(0, vR x.2.2.2 x0), (1, .int x1), (2, .int x2)]) hx (dc kX12_failsBy_1 10 rfl) (hn 6 (by decide)) [0, 1, 2] rfl ⟨⟨show (0 : Nat) ≠ 6 by decide, Or.inl (show (0 : Nat) + 1 ≠ 6 by decide)⟩, ⟨⟨show (1 : Nat) ≠ 6 by decide, Or.inl (show (1 : Nat) + 1 ≠ 6 by decide)⟩, ⟨⟨show (2 : Nat) ≠ 6 by decide, Or.inl (show (2 : Nat) + 1 ≠ 6 by decide)⟩, trivial⟩⟩⟩ rfl ?_
            exact j_sub [1, 2, 3, 0] rfl (hb144 x0 x1 x2 (0 : Int32) h)
          · exact j_sub [3] rfl (hb130 x4 h)
      · refine j_iload (q := 56) hx (dc kX12_failsBy_0 31 rfl) 3 rfl rfl ?_
        refine j_if_neS (q := 59) (tgt := 77) hx (dc kX12_failsBy_0 32 rfl) (by decide) rfl ?_ ?_
        · exact j_sub [0, 1, 2, 4, 5] rfl (hb77 x0 x1 x2 x5 x6 h)
        · refine j_aload_n (q := 60) hx (dc kX12_failsBy_0 33 rfl) rfl 0 rfl rfl ?_
          refine j_aload_n (q := 61) hx (dc kX12_failsBy_0 34 rfl) rfl 0 rfl rfl ?_
          refine w_gR (q := 64) hx (dc kX12_failsBy_0 35 rfl) ff_X12_28 lk_X12_58 rfl (fun v34 => ?_)
          refine j_aload_n (q := 65) hx (dc kX12_failsBy_0 36 rfl) rfl 0 rfl rfl ?_
          refine j_iload_n (q := 66) hx (dc kX12_failsBy_0 37 rfl) rfl 1 rfl rfl ?_
          refine j_iload (q := 68) hx (dc kX12_failsBy_0 38 rfl) 5 rfl rfl ?_
          refine w_cVIR (q := 71) (As := [.int x1, .int x6]) (st := [vR x.2.2.2 v34, vR x.2.2.2 x0]) hx (dc kX12_failsBy_0 39 rfl) cf12 (by decide) rfl (cI _ my_X12_need lm_X12_355 (by decide)) vs_X12_need rfl (fun u hu => sX12_need _ _ _ _ _ _ _ hu) (fun e => ite_ne (by unfold mX12_need at e; exact e)) (sum_le (sum_R (sum_R sum_nil)) (by decide)) rfl (fun v35 => ?_)
          refine w_cVIR (q := 74) (As := [vR x.2.2.2 v34, .int v35]) (st := []) hx (dc kX12_failsBy_0 40 rfl) cf12 (by decide) rfl (cI _ my_X12_isSure lm_X12_358 (by decide)) vs_X12_isSure rfl (fun u hu => sX12_isSure _ _ _ _ _ _ _ hu) (fun e => ite_ne (by unfold mX12_isSure at e; exact e)) (Nat.zero_le _) rfl (fun v37 => ?_)
          refine j_if_neS (q := 77) (tgt := 81) hx (dc kX12_failsBy_0 41 rfl) (by decide) rfl ?_ ?_
          · refine j_iconst (q := 82) (v := (0 : Int32)) hx (dc kX12_failsBy_0 44 rfl) (by decide) rfl ?_
            exact j_sub [0, 1, 2, 4, 5] rfl (hb82 x0 x1 x2 x5 x6 (0 : Int32) h)
          · exact j_sub [0, 1, 2, 4, 5] rfl (hb77 x0 x1 x2 x5 x6 h)
    exact j_loop (S := (Int32 × Int32 × Int32)) (lvf := fun s => [(0, vR x.2.2.2 x0), (1, .int x1), (2, .int x2), (4, .int s.1), (5, .int s.2.1), (6, .int s.2.2)]) (hpf := fun s => h) (f := (fun s : (Int32 × Int32 × Int32) => mX12_failsBy_l44f x0 x1 x2 h s.1 s.2.1 s.2.2)) (fun s => hB s.1 s.2.1 s.2.2) (x4, x5, x6)
  unfold mX12_failsBy
  refine J.ckd fun hck => ?_
  refine j_aload_n (q := 1) hx (dc kX12_failsBy_0 0 rfl) rfl 0 rfl rfl ?_
  refine j_iload_n (q := 2) hx (dc kX12_failsBy_0 1 rfl) rfl 1 rfl rfl ?_
  refine j_bipush (q := 4) (v := (6 : Int32)) hx (dc kX12_failsBy_0 2 rfl) (by decide) rfl ?_
  refine w_cVIR (q := 7) (As := [.int x1, .int (6 : Int32)]) (st := []) hx (dc kX12_failsBy_0 3 rfl) cf12 (by decide) rfl (cI _ my_X12_its lm_X12_339 (by decide)) vs_X12_its rfl (fun u hu => sX12_its _ _ _ _ _ _ _ hu) (fun e => ite_ne (by unfold mX12_its at e; exact e)) (Nat.zero_le _) rfl (fun v1 => ?_)
  refine j_iconst (q := 8) (v := (1 : Int32)) hx (dc kX12_failsBy_0 4 rfl) (by decide) rfl ?_
  refine j_icmp_neS (q := 11) (tgt := 13) hx (dc kX12_failsBy_0 5 rfl) (by decide) rfl ?_ ?_
  · refine j_aload_n (q := 14) hx (dc kX12_failsBy_0 8 rfl) rfl 0 rfl rfl ?_
    refine j_aload_n (q := 15) hx (dc kX12_failsBy_0 9 rfl) rfl 0 rfl rfl ?_
    refine w_gR (q := 18) hx (dc kX12_failsBy_0 10 rfl) ff_X12_28 lk_X12_58 rfl (fun v3 => ?_)
    refine j_iload_n (q := 19) hx (dc kX12_failsBy_0 11 rfl) rfl 2 rfl rfl ?_
    refine j_iload_n (q := 20) hx (dc kX12_failsBy_0 12 rfl) rfl 3 rfl rfl ?_
    refine w_cVVW (q := 23) (As := [vR x.2.2.2 v3, .int x2, .int x3]) (st := []) hx (dc kX12_failsBy_0 13 rfl) cf12 (by decide) rfl (cI _ my_X12_laysAgreed lm_X12_335 (by decide)) vs_X12_laysAgreed rfl (fun u hu => sX12_laysAgreed _ _ _ _ _ _ _ _ hu) (fun e => ite_ne (by unfold mX12_laysAgreed at e; exact e)) (Nat.zero_le _) rfl (fun h5 => ?_)
    refine j_aload_n (q := 24) hx (dc kX12_failsBy_0 14 rfl) rfl 0 rfl rfl ?_
    refine w_gR (q := 27) hx (dc kX12_failsBy_0 15 rfl) ff_X12_28 lk_X12_58 rfl (fun v6 => ?_)
    refine w_cSIR (q := 30) (As := [vR x.2.2.2 v6]) (st := []) hx (dc kX12_failsBy_0 16 rfl) (cI _ my_X12_many lm_X12_322 (by decide)) st_X12_many rfl (fun u hu => sX12_many _ _ _ _ _ hu) (Nat.zero_le _) rfl (fun v7 => ?_)
    refine j_if_neS (q := 33) (tgt := 35) hx (dc kX12_failsBy_0 17 rfl) (by decide) rfl ?_ ?_
    · refine j_iconst (q := 36) (v := (0 : Int32)) hx (dc kX12_failsBy_0 20 rfl) (by decide) rfl ?_
      refine j_istore (q := 38) (i := 4) (l2 := [(0, vR x.2.2.2 x0), (1, .int x1), (2, .int x2)]) hx (dc kX12_failsBy_0 21 rfl) (hn 4 (by decide)) [0, 1, 2] rfl ⟨⟨show (0 : Nat) ≠ 4 by decide, Or.inl (show (0 : Nat) + 1 ≠ 4 by decide)⟩, ⟨⟨show (1 : Nat) ≠ 4 by decide, Or.inl (show (1 : Nat) + 1 ≠ 4 by decide)⟩, ⟨⟨show (2 : Nat) ≠ 4 by decide, Or.inl (show (2 : Nat) + 1 ≠ 4 by decide)⟩, trivial⟩⟩⟩ rfl ?_
      refine j_iconst (q := 39) (v := (0 : Int32)) hx (dc kX12_failsBy_0 22 rfl) (by decide) rfl ?_
      refine j_istore (q := 41) (i := 5) (l2 := [(4, .int (0 : Int32)), (0, vR x.2.2.2 x0), (1, .int x1), (2, .int x2)]) hx (dc kX12_failsBy_0 23 rfl) (hn 5 (by decide)) [0, 1, 2, 3] rfl ⟨⟨show (4 : Nat) ≠ 5 by decide, Or.inr rfl⟩, ⟨⟨show (0 : Nat) ≠ 5 by decide, Or.inl (show (0 : Nat) + 1 ≠ 5 by decide)⟩, ⟨⟨show (1 : Nat) ≠ 5 by decide, Or.inl (show (1 : Nat) + 1 ≠ 5 by decide)⟩, ⟨⟨show (2 : Nat) ≠ 5 by decide, Or.inl (show (2 : Nat) + 1 ≠ 5 by decide)⟩, trivial⟩⟩⟩⟩ rfl ?_
      refine j_iconst (q := 42) (v := (0 : Int32)) hx (dc kX12_failsBy_0 24 rfl) (by decide) rfl ?_
      refine j_istore (q := 44) (i := 6) (l2 := [(5, .int (0 : Int32)), (4, .int (0 : Int32)), (0, vR x.2.2.2 x0), (1, .int x1), (2, .int x2)]) hx (dc kX12_failsBy_0 25 rfl) (hn 6 (by decide)) [0, 1, 2, 3, 4] rfl ⟨⟨show (5 : Nat) ≠ 6 by decide, Or.inr rfl⟩, ⟨⟨show (4 : Nat) ≠ 6 by decide, Or.inl (show (4 : Nat) + 1 ≠ 6 by decide)⟩, ⟨⟨show (0 : Nat) ≠ 6 by decide, Or.inl (show (0 : Nat) + 1 ≠ 6 by decide)⟩, ⟨⟨show (1 : Nat) ≠ 6 by decide, Or.inl (show (1 : Nat) + 1 ≠ 6 by decide)⟩, ⟨⟨show (2 : Nat) ≠ 6 by decide, Or.inl (show (2 : Nat) + 1 ≠ 6 by decide)⟩, trivial⟩⟩⟩⟩⟩ rfl ?_
      exact j_sub [3, 4, 5, 2, 1, 0] rfl (hb44 x0 x1 x2 (0 : Int32) (0 : Int32) (0 : Int32) h5)
    · refine j_iconst (q := 34) (v := (2 : Int32)) hx (dc kX12_failsBy_0 18 rfl) (by decide) rfl ?_
      exact r_iW hx hR (dc kX12_failsBy_0 19 rfl)
  · refine j_iconst (q := 12) (v := (1 : Int32)) hx (dc kX12_failsBy_0 6 rfl) (by decide) rfl ?_
    exact r_iW hx hR (dc kX12_failsBy_0 7 rfl)

set_option maxHeartbeats 4000000 in
set_option maxRecDepth 100000 in
theorem sX12_failing (l : Launch) (w : Wd) (x0 : Nat) (x1 : Int32) (h : Hp) (u : (Int32 × Hp)) (hK : mX12_failing x0 x1 h = some u) : M1 l w mi_X12_failing 5 [vR w x0, .int x1] h u.2 (some (.int u.1)) := by
  refine M1.of (own := RX12) (T := fun _ r => r = u) hK (by decide +kernel) rfl (by first | (simp only [lg_lenR, lg_lenI, lg_lenL, lg_len0]; decide) | decide) (fun x hx hnl hhf hl hw hret hnm hQ h0e => ⟨?_, rfl⟩)
  subst hw
  subst hl
  have hR : Rt x h u.2 (some (.int u.1)) ((some .int)) := ⟨h0e, hhf, hret, hQ⟩
  have hn : ∀ i, i < 2 → i < x.2.2.1.1.1 := fun i hi => by rw [hnl]; exact hi
  have e0 : lv_args 0 [vR x.2.2.2 x0, .int x1] = [(0, vR x.2.2.2 x0), (1, .int x1)] := by simp only [lv_argsR, lv_argsI, lv_argsL, lv_args0]
  rw [e0]
  unfold mX12_failing
  refine J.ckd fun hck => ?_
  refine j_aload_n (q := 1) hx (dc kX12_failing_0 0 rfl) rfl 0 rfl rfl ?_
  refine w_cVVW (q := 4) (As := []) (st := []) hx (dc kX12_failing_0 1 rfl) cf12 (by decide) rfl (cI _ my_X12_laysBacks lm_X12_364 (by decide)) vs_X12_laysBacks rfl (fun u hu => sX12_laysBacks _ _ _ _ _ hu) (fun e => ite_ne (by unfold mX12_laysBacks at e; exact e)) (Nat.zero_le _) rfl (fun h2 => ?_)
  refine j_aload_n (q := 5) hx (dc kX12_failing_0 2 rfl) rfl 0 rfl rfl ?_
  refine j_iload_n (q := 6) hx (dc kX12_failing_0 3 rfl) rfl 1 rfl rfl ?_
  refine j_aload_n (q := 7) hx (dc kX12_failing_0 4 rfl) rfl 0 rfl rfl ?_
  refine j_iload_n (q := 8) hx (dc kX12_failing_0 5 rfl) rfl 1 rfl rfl ?_
  refine j_iconst (q := 9) (v := (4 : Int32)) hx (dc kX12_failing_0 6 rfl) (by decide) rfl ?_
  refine w_cVIR (q := 12) (As := [.int x1, .int (4 : Int32)]) (st := [.int x1, vR x.2.2.2 x0]) hx (dc kX12_failing_0 7 rfl) cf12 (by decide) rfl (cI _ my_X12_its lm_X12_339 (by decide)) vs_X12_its rfl (fun u hu => sX12_its _ _ _ _ _ _ _ hu) (fun e => ite_ne (by unfold mX12_its at e; exact e)) (sum_le (sum_I (sum_R sum_nil)) (by decide)) rfl (fun v3 => ?_)
  refine j_aload_n (q := 13) hx (dc kX12_failing_0 8 rfl) rfl 0 rfl rfl ?_
  refine j_iload_n (q := 14) hx (dc kX12_failing_0 9 rfl) rfl 1 rfl rfl ?_
  refine j_iconst (q := 15) (v := (5 : Int32)) hx (dc kX12_failing_0 10 rfl) (by decide) rfl ?_
  refine w_cVIR (q := 18) (As := [.int x1, .int (5 : Int32)]) (st := [.int v3, .int x1, vR x.2.2.2 x0]) hx (dc kX12_failing_0 11 rfl) cf12 (by decide) rfl (cI _ my_X12_its lm_X12_339 (by decide)) vs_X12_its rfl (fun u hu => sX12_its _ _ _ _ _ _ _ hu) (fun e => ite_ne (by unfold mX12_its at e; exact e)) (sum_le (sum_I (sum_I (sum_R sum_nil))) (by decide)) rfl (fun v5 => ?_)
  refine w_cVIW (q := 21) (As := [.int x1, .int v3, .int v5]) (st := []) hx (dc kX12_failing_0 12 rfl) cf12 (by decide) rfl (cI _ my_X12_failsBy lm_X12_367 (by decide)) vs_X12_failsBy rfl (fun u hu => sX12_failsBy _ _ _ _ _ _ _ _ hu) (fun e => ite_ne (by unfold mX12_failsBy at e; exact e)) (Nat.zero_le _) rfl (fun v7 h8 => ?_)
  exact r_iW hx hR (dc kX12_failing_0 13 rfl)

set_option maxHeartbeats 4000000 in
set_option maxRecDepth 100000 in
theorem sX12_standing (l : Launch) (w : Wd) (x0 : Nat) (h : Hp) (u : (Int32 × Hp)) (hK : mX12_standing x0 h = some u) : M1 l w mi_X12_standing 6 [vR w x0] h u.2 (some (.int u.1)) := by
  refine M1.of (own := RX12) (T := fun _ r => r = u) hK (by decide +kernel) rfl (by first | (simp only [lg_lenR, lg_lenI, lg_lenL, lg_len0]; decide) | decide) (fun x hx hnl hhf hl hw hret hnm hQ h0e => ⟨?_, rfl⟩)
  subst hw
  subst hl
  have hR : Rt x h u.2 (some (.int u.1)) ((some .int)) := ⟨h0e, hhf, hret, hQ⟩
  have hn : ∀ i, i < 3 → i < x.2.2.1.1.1 := fun i hi => by rw [hnl]; exact hi
  have e0 : lv_args 0 [vR x.2.2.2 x0] = [(0, vR x.2.2.2 x0)] := by simp only [lv_argsR, lv_argsI, lv_argsL, lv_args0]
  rw [e0]
  have hb4 : ∀ (x0 : Nat) (x1 : Int32) (x2 : Int32) (h : Hp), J x 4 [(0, vR x.2.2.2 x0), (1, .int x1), (2, .int x2)] [] h (mX12_standing_l4 x0 x1 x2 h) (fun r => r = u) := by
    intro x0 x1 x2 h
    have hB : ∀ (x1 : Int32) (x2 : Int32) (h : Hp), J x 4 [(0, vR x.2.2.2 x0), (1, .int x1), (2, .int x2)] [] h (mX12_standing_l4f x0 x1 x2 h) (TL (S := (Int32 × Int32 × Hp)) x 4 (fun s => [(0, vR x.2.2.2 x0), (1, .int s.1), (2, .int s.2.1)]) [] (fun s => s.2.2) (fun r => r = u)) := by
      intro x1 x2 h
      have hb31 : ∀ (x0 : Nat) (x2 : Int32) (t0 : Int32) (t1 : Int32) (h : Hp), J x 31 [(0, vR x.2.2.2 x0), (2, .int x2)] [.int t1, .int t0] h (mX12_standing_b31 x0 x2 t0 t1 h) (TL (S := (Int32 × Int32 × Hp)) x 4 (fun s => [(0, vR x.2.2.2 x0), (1, .int s.1), (2, .int s.2.1)]) [] (fun s => s.2.2) (fun r => r = u)) := by
        intro x0 x2 t0 t1 h
        unfold mX12_standing_b31
        refine j_ior (q := 32) hx (dc kX12_standing_0 20 rfl) rfl ?_
        refine j_istore_n (q := 33) (i := 1) (l2 := [(0, vR x.2.2.2 x0), (2, .int x2)]) hx (dc kX12_standing_0 21 rfl) rfl (hn 1 (by decide)) [0, 1] rfl ⟨⟨show (0 : Nat) ≠ 1 by decide, Or.inr (vR_cat _ _)⟩, ⟨⟨show (2 : Nat) ≠ 1 by decide, Or.inl (show (2 : Nat) + 1 ≠ 1 by decide)⟩, trivial⟩⟩ rfl ?_
        refine j_iinc (q := 36) (l2 := [(1, .int (t0 ||| t1)), (0, vR x.2.2.2 x0)]) hx (dc kX12_standing_0 22 rfl) 2 rfl (v := (1 : Int32)) (by decide) (hn 2 (by decide)) [0, 1] rfl ⟨⟨show (1 : Nat) ≠ 2 by decide, Or.inr rfl⟩, ⟨⟨show (0 : Nat) ≠ 2 by decide, Or.inl (show (0 : Nat) + 1 ≠ 2 by decide)⟩, trivial⟩⟩ rfl ?_
        refine j_goto (q := 4) hx (dc kX12_standing_0 23 rfl) (by decide) ?_
        exact j_back [2, 1, 0] ((t0 ||| t1), (x2 + (1 : Int32)), h) rfl rfl
      unfold mX12_standing_l4f
      refine j_iload_n (q := 5) hx (dc kX12_standing_0 4 rfl) rfl 2 rfl rfl ?_
      refine j_aload_n (q := 6) hx (dc kX12_standing_0 5 rfl) rfl 0 rfl rfl ?_
      refine w_gR (q := 9) hx (dc kX12_standing_0 6 rfl) ff_X12_4 lk_X12_23 rfl (fun v1 => ?_)
      refine j_bipush (q := 11) (v := (18 : Int32)) hx (dc kX12_standing_0 7 rfl) (by decide) rfl ?_
      refine j_ldI (q := 12) hx (dc kX12_standing_0 8 rfl) rfl (fun v2 => ?_)
      refine j_icmp_geS (q := 15) (tgt := 39) hx (dc kX12_standing_0 9 rfl) (by decide) rfl ?_ ?_
      · refine j_exit ?_
        refine j_iload_n (q := 40) hx (dc kX12_standing_0 24 rfl) rfl 1 rfl rfl ?_
        exact r_iW hx hR (dc kX12_standing_0 25 rfl)
      · refine j_iload_n (q := 16) hx (dc kX12_standing_0 10 rfl) rfl 1 rfl rfl ?_
        refine j_aload_n (q := 17) hx (dc kX12_standing_0 11 rfl) rfl 0 rfl rfl ?_
        refine j_iload_n (q := 18) hx (dc kX12_standing_0 12 rfl) rfl 2 rfl rfl ?_
        refine w_cVIW (q := 21) (As := [.int x2]) (st := [.int x1]) hx (dc kX12_standing_0 13 rfl) cf12 (by decide) rfl (cI _ my_X12_failing lm_X12_371 (by decide)) vs_X12_failing rfl (fun u hu => sX12_failing _ _ _ _ _ _ hu) (fun e => ite_ne (by unfold mX12_failing at e; exact e)) (sum_le (sum_I sum_nil) (by decide)) rfl (fun v3 h4 => ?_)
        refine j_if_neS (q := 24) (tgt := 30) hx (dc kX12_standing_0 14 rfl) (by decide) rfl ?_ ?_
        · refine j_iconst (q := 31) (v := (0 : Int32)) hx (dc kX12_standing_0 19 rfl) (by decide) rfl ?_
          exact j_sub [0, 2] rfl (hb31 x0 x2 x1 (0 : Int32) h4)
        · refine j_iconst (q := 25) (v := (1 : Int32)) hx (dc kX12_standing_0 15 rfl) (by decide) rfl ?_
          refine j_iload_n (q := 26) hx (dc kX12_standing_0 16 rfl) rfl 2 rfl rfl ?_
          refine j_ishl (q := 27) hx (dc kX12_standing_0 17 rfl) rfl ?_
          refine j_goto (q := 31) hx (dc kX12_standing_0 18 rfl) (by decide) ?_
          exact j_sub [0, 2] rfl (hb31 x0 x2 x1 ((1 : Int32) <<< (x2 &&& 31)) h4)
    exact j_loop (S := (Int32 × Int32 × Hp)) (lvf := fun s => [(0, vR x.2.2.2 x0), (1, .int s.1), (2, .int s.2.1)]) (hpf := fun s => s.2.2) (f := (fun s : (Int32 × Int32 × Hp) => mX12_standing_l4f x0 s.1 s.2.1 s.2.2)) (fun s => hB s.1 s.2.1 s.2.2) (x1, x2, h)
  unfold mX12_standing
  refine J.ckd fun hck => ?_
  refine j_iconst (q := 1) (v := (0 : Int32)) hx (dc kX12_standing_0 0 rfl) (by decide) rfl ?_
  refine j_istore_n (q := 2) (i := 1) (l2 := [(0, vR x.2.2.2 x0)]) hx (dc kX12_standing_0 1 rfl) rfl (hn 1 (by decide)) [0] rfl ⟨⟨show (0 : Nat) ≠ 1 by decide, Or.inr (vR_cat _ _)⟩, trivial⟩ rfl ?_
  refine j_iconst (q := 3) (v := (0 : Int32)) hx (dc kX12_standing_0 2 rfl) (by decide) rfl ?_
  refine j_istore_n (q := 4) (i := 2) (l2 := [(1, .int (0 : Int32)), (0, vR x.2.2.2 x0)]) hx (dc kX12_standing_0 3 rfl) rfl (hn 2 (by decide)) [0, 1] rfl ⟨⟨show (1 : Nat) ≠ 2 by decide, Or.inr rfl⟩, ⟨⟨show (0 : Nat) ≠ 2 by decide, Or.inl (show (0 : Nat) + 1 ≠ 2 by decide)⟩, trivial⟩⟩ rfl ?_
  exact j_sub [2, 1, 0] rfl (hb4 x0 (0 : Int32) (0 : Int32) h)

set_option maxHeartbeats 4000000 in
set_option maxRecDepth 100000 in
theorem sX12_laysInjuries (l : Launch) (w : Wd) (x0 : Nat) (h : Hp) (u : Hp) (hK : mX12_laysInjuries x0 h = some u) : M1 l w mi_X12_laysInjuries 2 [vR w x0] h u (none) := by
  refine M1.of (own := RX12) (T := fun _ r => r = u) hK (by decide +kernel) rfl (by first | (simp only [lg_lenR, lg_lenI, lg_lenL, lg_len0]; decide) | decide) (fun x hx hnl hhf hl hw hret hnm hQ h0e => ⟨?_, rfl⟩)
  subst hw
  subst hl
  have hR : Rt x h u (none) (none) := ⟨h0e, hhf, hret, hQ⟩
  have hn : ∀ i, i < 5 → i < x.2.2.1.1.1 := fun i hi => by rw [hnl]; exact hi
  have e0 : lv_args 0 [vR x.2.2.2 x0] = [(0, vR x.2.2.2 x0)] := by simp only [lv_argsR, lv_argsI, lv_argsL, lv_args0]
  rw [e0]
  have hb23 : ∀ (x0 : Nat) (x1 : Int32) (h : Hp), J x 23 [(0, vR x.2.2.2 x0), (1, .int x1)] [] h (mX12_laysInjuries_l23 x0 x1 h) (fun r => r = u) := by
    intro x0 x1 h
    have hB : ∀ (x1 : Int32) (h : Hp), J x 23 [(0, vR x.2.2.2 x0), (1, .int x1)] [] h (mX12_laysInjuries_l23f x0 x1 h) (TL (S := (Int32 × Hp)) x 23 (fun s => [(0, vR x.2.2.2 x0), (1, .int s.1)]) [] (fun s => s.2) (fun r => r = u)) := by
      intro x1 h
      have hb31 : ∀ (x0 : Nat) (x1 : Int32) (x2 : Int32) (h : Hp), J x 31 [(0, vR x.2.2.2 x0), (1, .int x1), (2, .int x2)] [] h (mX12_laysInjuries_l31 x0 x1 x2 h) (TL (S := (Int32 × Hp)) x 23 (fun s => [(0, vR x.2.2.2 x0), (1, .int s.1)]) [] (fun s => s.2) (fun r => r = u)) := by
        intro x0 x1 x2 h
        have hB : ∀ (x2 : Int32) (h : Hp), J x 31 [(0, vR x.2.2.2 x0), (1, .int x1), (2, .int x2)] [] h (mX12_laysInjuries_l31f x0 x1 x2 h) (TL (S := (Int32 × Hp)) x 31 (fun s => [(0, vR x.2.2.2 x0), (1, .int x1), (2, .int s.1)]) [] (fun s => s.2) (TL (S := (Int32 × Hp)) x 23 (fun s => [(0, vR x.2.2.2 x0), (1, .int s.1)]) [] (fun s => s.2) (fun r => r = u))) := by
          intro x2 h
          have hb44 : ∀ (x0 : Nat) (x1 : Int32) (x2 : Int32) (x3 : Int32) (h : Hp), J x 44 [(0, vR x.2.2.2 x0), (1, .int x1), (2, .int x2), (3, .int x3)] [] h (mX12_laysInjuries_l44 x0 x1 x2 x3 h) (TL (S := (Int32 × Hp)) x 31 (fun s => [(0, vR x.2.2.2 x0), (1, .int x1), (2, .int s.1)]) [] (fun s => s.2) (TL (S := (Int32 × Hp)) x 23 (fun s => [(0, vR x.2.2.2 x0), (1, .int s.1)]) [] (fun s => s.2) (fun r => r = u))) := by
            intro x0 x1 x2 x3 h
            have hB : ∀ (x3 : Int32) (h : Hp), J x 44 [(0, vR x.2.2.2 x0), (1, .int x1), (2, .int x2), (3, .int x3)] [] h (mX12_laysInjuries_l44f x0 x1 x2 x3 h) (TL (S := (Int32 × Hp)) x 44 (fun s => [(0, vR x.2.2.2 x0), (1, .int x1), (2, .int x2), (3, .int s.1)]) [] (fun s => s.2) (TL (S := (Int32 × Hp)) x 31 (fun s => [(0, vR x.2.2.2 x0), (1, .int x1), (2, .int s.1)]) [] (fun s => s.2) (TL (S := (Int32 × Hp)) x 23 (fun s => [(0, vR x.2.2.2 x0), (1, .int s.1)]) [] (fun s => s.2) (fun r => r = u)))) := by
              intro x3 h
              have hb147 : ∀ (x0 : Nat) (x1 : Int32) (x2 : Int32) (x3 : Int32) (h : Hp), J x 147 [(0, vR x.2.2.2 x0), (1, .int x1), (2, .int x2), (3, .int x3)] [] h (mX12_laysInjuries_b147 x0 x1 x2 x3 h) (TL (S := (Int32 × Hp)) x 44 (fun s => [(0, vR x.2.2.2 x0), (1, .int x1), (2, .int x2), (3, .int s.1)]) [] (fun s => s.2) (TL (S := (Int32 × Hp)) x 31 (fun s => [(0, vR x.2.2.2 x0), (1, .int x1), (2, .int s.1)]) [] (fun s => s.2) (TL (S := (Int32 × Hp)) x 23 (fun s => [(0, vR x.2.2.2 x0), (1, .int s.1)]) [] (fun s => s.2) (fun r => r = u)))) := by
                intro x0 x1 x2 x3 h
                unfold mX12_laysInjuries_b147
                refine j_iinc (q := 150) (l2 := [(0, vR x.2.2.2 x0), (1, .int x1), (2, .int x2)]) hx (dc kX12_laysInjuries_1 23 rfl) 3 rfl (v := (1 : Int32)) (by decide) (hn 3 (by decide)) [0, 1, 2] rfl ⟨⟨show (0 : Nat) ≠ 3 by decide, Or.inl (show (0 : Nat) + 1 ≠ 3 by decide)⟩, ⟨⟨show (1 : Nat) ≠ 3 by decide, Or.inl (show (1 : Nat) + 1 ≠ 3 by decide)⟩, ⟨⟨show (2 : Nat) ≠ 3 by decide, Or.inr rfl⟩, trivial⟩⟩⟩ rfl ?_
                refine j_goto (q := 44) hx (dc kX12_laysInjuries_1 24 rfl) (by decide) ?_
                exact j_back [1, 2, 3, 0] ((x3 + (1 : Int32)), h) rfl rfl
              have hb107 : ∀ (x0 : Nat) (x1 : Int32) (x2 : Int32) (x3 : Int32) (t0 : Int32) (h : Hp), J x 107 [(0, vR x.2.2.2 x0), (1, .int x1), (2, .int x2), (3, .int x3)] [.int t0] h (mX12_laysInjuries_b107 x0 x1 x2 x3 t0 h) (TL (S := (Int32 × Hp)) x 44 (fun s => [(0, vR x.2.2.2 x0), (1, .int x1), (2, .int x2), (3, .int s.1)]) [] (fun s => s.2) (TL (S := (Int32 × Hp)) x 31 (fun s => [(0, vR x.2.2.2 x0), (1, .int x1), (2, .int s.1)]) [] (fun s => s.2) (TL (S := (Int32 × Hp)) x 23 (fun s => [(0, vR x.2.2.2 x0), (1, .int s.1)]) [] (fun s => s.2) (fun r => r = u)))) := by
                intro x0 x1 x2 x3 t0 h
                unfold mX12_laysInjuries_b107
                refine j_istore (q := 109) (i := 4) (l2 := [(0, vR x.2.2.2 x0), (1, .int x1), (2, .int x2), (3, .int x3)]) hx (dc kX12_laysInjuries_0 63 rfl) (hn 4 (by decide)) [0, 1, 2, 3] rfl ⟨⟨show (0 : Nat) ≠ 4 by decide, Or.inl (show (0 : Nat) + 1 ≠ 4 by decide)⟩, ⟨⟨show (1 : Nat) ≠ 4 by decide, Or.inl (show (1 : Nat) + 1 ≠ 4 by decide)⟩, ⟨⟨show (2 : Nat) ≠ 4 by decide, Or.inl (show (2 : Nat) + 1 ≠ 4 by decide)⟩, ⟨⟨show (3 : Nat) ≠ 4 by decide, Or.inr rfl⟩, trivial⟩⟩⟩⟩ rfl ?_
                refine j_iload (q := 111) hx (dc kX12_laysInjuries_1 0 rfl) 0 rfl rfl ?_
                refine j_if_eq (q := 114) (tgt := 147) hx (dc kX12_laysInjuries_1 1 rfl) (by decide) Iff.rfl rfl ?_ ?_
                · exact j_sub [1, 2, 3, 4] rfl (hb147 x0 x1 x2 x3 h)
                · refine j_aload_n (q := 115) hx (dc kX12_laysInjuries_1 2 rfl) rfl 1 rfl rfl ?_
                  refine w_gR (q := 118) hx (dc kX12_laysInjuries_1 3 rfl) ff_X12_30 lk_X12_64 rfl (fun v7 => ?_)
                  refine j_iload_n (q := 119) hx (dc kX12_laysInjuries_1 4 rfl) rfl 3 rfl rfl ?_
                  refine j_aload_n (q := 120) hx (dc kX12_laysInjuries_1 5 rfl) rfl 1 rfl rfl ?_
                  refine w_gR (q := 123) hx (dc kX12_laysInjuries_1 6 rfl) ff_X12_30 lk_X12_64 rfl (fun v8 => ?_)
                  refine j_iload_n (q := 124) hx (dc kX12_laysInjuries_1 7 rfl) rfl 3 rfl rfl ?_
                  refine j_ldI (q := 125) hx (dc kX12_laysInjuries_1 8 rfl) rfl (fun v9 => ?_)
                  refine j_aload_n (q := 126) hx (dc kX12_laysInjuries_1 9 rfl) rfl 1 rfl rfl ?_
                  refine w_gR (q := 129) hx (dc kX12_laysInjuries_1 10 rfl) ff_X12_30 lk_X12_64 rfl (fun v10 => ?_)
                  refine j_iload_n (q := 130) hx (dc kX12_laysInjuries_1 11 rfl) rfl 4 rfl rfl ?_
                  refine j_ldI (q := 131) hx (dc kX12_laysInjuries_1 12 rfl) rfl (fun v11 => ?_)
                  refine w_mmin (q := 134) hx (dc kX12_laysInjuries_1 13 rfl) lm_X12_345 ms_mmin ms_init mc_mmin (by decide) (sum_le (sum_I (sum_R sum_nil)) (by decide)) rfl ?_
                  refine w_stI (q := 135) hx (dc kX12_laysInjuries_1 14 rfl) rfl (fun h12 => ?_)
                  refine j_aload_n (q := 136) hx (dc kX12_laysInjuries_1 15 rfl) rfl 1 rfl rfl ?_
                  refine w_gR (q := 139) hx (dc kX12_laysInjuries_1 16 rfl) ff_X12_30 lk_X12_64 rfl (fun v13 => ?_)
                  refine j_iload_n (q := 140) hx (dc kX12_laysInjuries_1 17 rfl) rfl 4 rfl rfl ?_
                  refine j_aload_n (q := 141) hx (dc kX12_laysInjuries_1 18 rfl) rfl 1 rfl rfl ?_
                  refine w_gR (q := 144) hx (dc kX12_laysInjuries_1 19 rfl) ff_X12_30 lk_X12_64 rfl (fun v14 => ?_)
                  refine j_iload_n (q := 145) hx (dc kX12_laysInjuries_1 20 rfl) rfl 3 rfl rfl ?_
                  refine j_ldI (q := 146) hx (dc kX12_laysInjuries_1 21 rfl) rfl (fun v15 => ?_)
                  refine w_stI (q := 147) hx (dc kX12_laysInjuries_1 22 rfl) rfl (fun h16 => ?_)
                  exact j_sub [1, 2, 3, 4] rfl (hb147 x0 x1 x2 x3 h16)
              have hb102 : ∀ (x0 : Nat) (x1 : Int32) (x2 : Int32) (x3 : Int32) (h : Hp), J x 102 [(0, vR x.2.2.2 x0), (1, .int x1), (2, .int x2), (3, .int x3)] [] h (mX12_laysInjuries_b102 x0 x1 x2 x3 h) (TL (S := (Int32 × Hp)) x 44 (fun s => [(0, vR x.2.2.2 x0), (1, .int x1), (2, .int x2), (3, .int s.1)]) [] (fun s => s.2) (TL (S := (Int32 × Hp)) x 31 (fun s => [(0, vR x.2.2.2 x0), (1, .int x1), (2, .int s.1)]) [] (fun s => s.2) (TL (S := (Int32 × Hp)) x 23 (fun s => [(0, vR x.2.2.2 x0), (1, .int s.1)]) [] (fun s => s.2) (fun r => r = u)))) := by
                intro x0 x1 x2 x3 h
                unfold mX12_laysInjuries_b102
                refine j_iconst (q := 103) (v := (1 : Int32)) hx (dc kX12_laysInjuries_0 60 rfl) (by decide) rfl ?_
                refine j_goto (q := 107) hx (dc kX12_laysInjuries_0 61 rfl) (by decide) ?_
                exact hb107 x0 x1 x2 x3 (1 : Int32) h
              have hb106 : ∀ (x0 : Nat) (x1 : Int32) (x2 : Int32) (x3 : Int32) (h : Hp), J x 106 [(0, vR x.2.2.2 x0), (1, .int x1), (2, .int x2), (3, .int x3)] [] h (mX12_laysInjuries_b106 x0 x1 x2 x3 h) (TL (S := (Int32 × Hp)) x 44 (fun s => [(0, vR x.2.2.2 x0), (1, .int x1), (2, .int x2), (3, .int s.1)]) [] (fun s => s.2) (TL (S := (Int32 × Hp)) x 31 (fun s => [(0, vR x.2.2.2 x0), (1, .int x1), (2, .int s.1)]) [] (fun s => s.2) (TL (S := (Int32 × Hp)) x 23 (fun s => [(0, vR x.2.2.2 x0), (1, .int s.1)]) [] (fun s => s.2) (fun r => r = u)))) := by
                intro x0 x1 x2 x3 h
                unfold mX12_laysInjuries_b106
                refine j_iconst (q := 107) (v := (0 : Int32)) hx (dc kX12_laysInjuries_0 62 rfl) (by decide) rfl ?_
                exact hb107 x0 x1 x2 x3 (0 : Int32) h
              unfold mX12_laysInjuries_l44f
              refine j_iload_n (q := 45) hx (dc kX12_laysInjuries_0 27 rfl) rfl 3 rfl rfl ?_
              refine j_aload_n (q := 46) hx (dc kX12_laysInjuries_0 28 rfl) rfl 0 rfl rfl ?_
              refine w_gR (q := 49) hx (dc kX12_laysInjuries_0 29 rfl) ff_X12_4 lk_X12_23 rfl (fun v3 => ?_)
              refine j_bipush (q := 51) (v := (18 : Int32)) hx (dc kX12_laysInjuries_0 30 rfl) (by decide) rfl ?_
              refine j_ldI (q := 52) hx (dc kX12_laysInjuries_0 31 rfl) rfl (fun v4 => ?_)
              refine j_icmp_geS (q := 55) (tgt := 153) hx (dc kX12_laysInjuries_0 32 rfl) (by decide) rfl ?_ ?_
              · refine j_exit ?_
                refine j_iinc (q := 156) (l2 := [(0, vR x.2.2.2 x0), (1, .int x1)]) hx (dc kX12_laysInjuries_1 25 rfl) 2 rfl (v := (1 : Int32)) (by decide) (hn 2 (by decide)) [0, 1] rfl ⟨⟨show (0 : Nat) ≠ 2 by decide, Or.inl (show (0 : Nat) + 1 ≠ 2 by decide)⟩, ⟨⟨show (1 : Nat) ≠ 2 by decide, Or.inr rfl⟩, trivial⟩⟩ rfl ?_
                refine j_goto (q := 31) hx (dc kX12_laysInjuries_1 26 rfl) (by decide) ?_
                exact j_back [1, 2, 0] ((x2 + (1 : Int32)), h) rfl rfl
              · refine j_aload_n (q := 56) hx (dc kX12_laysInjuries_0 33 rfl) rfl 0 rfl rfl ?_
                refine j_iload_n (q := 57) hx (dc kX12_laysInjuries_0 34 rfl) rfl 3 rfl rfl ?_
                refine j_bipush (q := 59) (v := (7 : Int32)) hx (dc kX12_laysInjuries_0 35 rfl) (by decide) rfl ?_
                refine w_cVIR (q := 62) (As := [.int x3, .int (7 : Int32)]) (st := []) hx (dc kX12_laysInjuries_0 36 rfl) cf12 (by decide) rfl (cI _ my_X12_its lm_X12_339 (by decide)) vs_X12_its rfl (fun u hu => sX12_its _ _ _ _ _ _ _ hu) (fun e => ite_ne (by unfold mX12_its at e; exact e)) (Nat.zero_le _) rfl (fun v5 => ?_)
                refine j_iload_n (q := 63) hx (dc kX12_laysInjuries_0 37 rfl) rfl 2 rfl rfl ?_
                refine j_icmp_eq (q := 66) (tgt := 102) hx (dc kX12_laysInjuries_0 38 rfl) (by decide) Iff.rfl rfl ?_ ?_
                · exact hb102 x0 x1 x2 x3 h
                · refine j_iload_n (q := 67) hx (dc kX12_laysInjuries_0 39 rfl) rfl 2 rfl rfl ?_
                  refine j_aload_n (q := 68) hx (dc kX12_laysInjuries_0 40 rfl) rfl 0 rfl rfl ?_
                  refine w_gR (q := 71) hx (dc kX12_laysInjuries_0 41 rfl) ff_X12_0 lk_X12_7 rfl (fun v17 => ?_)
                  refine j_iconst (q := 72) (v := (2 : Int32)) hx (dc kX12_laysInjuries_0 42 rfl) (by decide) rfl ?_
                  refine j_ldI (q := 73) hx (dc kX12_laysInjuries_0 43 rfl) rfl (fun v18 => ?_)
                  refine j_icmp_geS (q := 76) (tgt := 106) hx (dc kX12_laysInjuries_0 44 rfl) (by decide) rfl ?_ ?_
                  · exact hb106 x0 x1 x2 x3 h
                  · refine j_iload_n (q := 77) hx (dc kX12_laysInjuries_0 45 rfl) rfl 3 rfl rfl ?_
                    refine j_aload_n (q := 78) hx (dc kX12_laysInjuries_0 46 rfl) rfl 0 rfl rfl ?_
                    refine w_gR (q := 81) hx (dc kX12_laysInjuries_0 47 rfl) ff_X12_0 lk_X12_7 rfl (fun v19 => ?_)
                    refine j_iconst (q := 82) (v := (2 : Int32)) hx (dc kX12_laysInjuries_0 48 rfl) (by decide) rfl ?_
                    refine j_ldI (q := 83) hx (dc kX12_laysInjuries_0 49 rfl) rfl (fun v20 => ?_)
                    refine j_icmp_geS (q := 86) (tgt := 106) hx (dc kX12_laysInjuries_0 50 rfl) (by decide) rfl ?_ ?_
                    · exact hb106 x0 x1 x2 x3 h
                    · refine j_aload_n (q := 87) hx (dc kX12_laysInjuries_0 51 rfl) rfl 0 rfl rfl ?_
                      refine w_gR (q := 90) hx (dc kX12_laysInjuries_0 52 rfl) ff_X12_0 lk_X12_7 rfl (fun v21 => ?_)
                      refine j_bipush (q := 92) (v := (61 : Int32)) hx (dc kX12_laysInjuries_0 53 rfl) (by decide) rfl ?_
                      refine j_iload_n (q := 93) hx (dc kX12_laysInjuries_0 54 rfl) rfl 2 rfl rfl ?_
                      refine j_iadd (q := 94) hx (dc kX12_laysInjuries_0 55 rfl) rfl ?_
                      refine j_ldI (q := 95) hx (dc kX12_laysInjuries_0 56 rfl) rfl (fun v22 => ?_)
                      refine j_iload_n (q := 96) hx (dc kX12_laysInjuries_0 57 rfl) rfl 3 rfl rfl ?_
                      refine w_cSIR (q := 99) (As := [.int v22, .int x3]) (st := []) hx (dc kX12_laysInjuries_0 58 rfl) (cI _ my_X12_has lm_X12_239 (by decide)) st_X12_has rfl (fun u hu => sX12_has _ _ _ _ _ _ hu) (Nat.zero_le _) rfl (fun v23 => ?_)
                      refine j_if_eq (q := 102) (tgt := 106) hx (dc kX12_laysInjuries_0 59 rfl) (by decide) Iff.rfl rfl ?_ ?_
                      · exact hb106 x0 x1 x2 x3 h
                      · exact hb102 x0 x1 x2 x3 h
            exact j_loop (S := (Int32 × Hp)) (lvf := fun s => [(0, vR x.2.2.2 x0), (1, .int x1), (2, .int x2), (3, .int s.1)]) (hpf := fun s => s.2) (f := (fun s : (Int32 × Hp) => mX12_laysInjuries_l44f x0 x1 x2 s.1 s.2)) (fun s => hB s.1 s.2) (x3, h)
          unfold mX12_laysInjuries_l31f
          refine j_iload_n (q := 32) hx (dc kX12_laysInjuries_0 19 rfl) rfl 2 rfl rfl ?_
          refine j_aload_n (q := 33) hx (dc kX12_laysInjuries_0 20 rfl) rfl 0 rfl rfl ?_
          refine w_gR (q := 36) hx (dc kX12_laysInjuries_0 21 rfl) ff_X12_4 lk_X12_23 rfl (fun v1 => ?_)
          refine j_bipush (q := 38) (v := (18 : Int32)) hx (dc kX12_laysInjuries_0 22 rfl) (by decide) rfl ?_
          refine j_ldI (q := 39) hx (dc kX12_laysInjuries_0 23 rfl) rfl (fun v2 => ?_)
          refine j_icmp_geS (q := 42) (tgt := 159) hx (dc kX12_laysInjuries_0 24 rfl) (by decide) rfl ?_ ?_
          · refine j_exit ?_
            refine j_iinc (q := 162) (l2 := [(0, vR x.2.2.2 x0)]) hx (dc kX12_laysInjuries_1 27 rfl) 1 rfl (v := (1 : Int32)) (by decide) (hn 1 (by decide)) [0] rfl ⟨⟨show (0 : Nat) ≠ 1 by decide, Or.inr (vR_cat _ _)⟩, trivial⟩ rfl ?_
            refine j_goto (q := 23) hx (dc kX12_laysInjuries_1 28 rfl) (by decide) ?_
            exact j_back [1, 0] ((x1 + (1 : Int32)), h) rfl rfl
          · refine j_iconst (q := 43) (v := (0 : Int32)) hx (dc kX12_laysInjuries_0 25 rfl) (by decide) rfl ?_
            refine j_istore_n (q := 44) (i := 3) (l2 := [(0, vR x.2.2.2 x0), (1, .int x1), (2, .int x2)]) hx (dc kX12_laysInjuries_0 26 rfl) rfl (hn 3 (by decide)) [0, 1, 2] rfl ⟨⟨show (0 : Nat) ≠ 3 by decide, Or.inl (show (0 : Nat) + 1 ≠ 3 by decide)⟩, ⟨⟨show (1 : Nat) ≠ 3 by decide, Or.inl (show (1 : Nat) + 1 ≠ 3 by decide)⟩, ⟨⟨show (2 : Nat) ≠ 3 by decide, Or.inr rfl⟩, trivial⟩⟩⟩ rfl ?_
            exact j_sub [1, 2, 3, 0] rfl (hb44 x0 x1 x2 (0 : Int32) h)
        exact j_loop (S := (Int32 × Hp)) (lvf := fun s => [(0, vR x.2.2.2 x0), (1, .int x1), (2, .int s.1)]) (hpf := fun s => s.2) (f := (fun s : (Int32 × Hp) => mX12_laysInjuries_l31f x0 x1 s.1 s.2)) (fun s => hB s.1 s.2) (x2, h)
      unfold mX12_laysInjuries_l23f
      refine j_iload_n (q := 24) hx (dc kX12_laysInjuries_0 14 rfl) rfl 1 rfl rfl ?_
      refine j_bipush (q := 26) (v := (8 : Int32)) hx (dc kX12_laysInjuries_0 15 rfl) (by decide) rfl ?_
      refine j_icmp_geS (q := 29) (tgt := 165) hx (dc kX12_laysInjuries_0 16 rfl) (by decide) rfl ?_ ?_
      · refine j_exit ?_
        exact r_vW hx hR (dc kX12_laysInjuries_1 29 rfl)
      · refine j_iconst (q := 30) (v := (0 : Int32)) hx (dc kX12_laysInjuries_0 17 rfl) (by decide) rfl ?_
        refine j_istore_n (q := 31) (i := 2) (l2 := [(0, vR x.2.2.2 x0), (1, .int x1)]) hx (dc kX12_laysInjuries_0 18 rfl) rfl (hn 2 (by decide)) [0, 1] rfl ⟨⟨show (0 : Nat) ≠ 2 by decide, Or.inl (show (0 : Nat) + 1 ≠ 2 by decide)⟩, ⟨⟨show (1 : Nat) ≠ 2 by decide, Or.inr rfl⟩, trivial⟩⟩ rfl ?_
        exact j_sub [1, 2, 0] rfl (hb31 x0 x1 (0 : Int32) h)
    exact j_loop (S := (Int32 × Hp)) (lvf := fun s => [(0, vR x.2.2.2 x0), (1, .int s.1)]) (hpf := fun s => s.2) (f := (fun s : (Int32 × Hp) => mX12_laysInjuries_l23f x0 s.1 s.2)) (fun s => hB s.1 s.2) (x1, h)
  have hb2 : ∀ (x0 : Nat) (x1 : Int32) (h : Hp), J x 2 [(0, vR x.2.2.2 x0), (1, .int x1)] [] h (mX12_laysInjuries_l2 x0 x1 h) (fun r => r = u) := by
    intro x0 x1 h
    have hB : ∀ (x1 : Int32) (h : Hp), J x 2 [(0, vR x.2.2.2 x0), (1, .int x1)] [] h (mX12_laysInjuries_l2f x0 x1 h) (TL (S := (Int32 × Hp)) x 2 (fun s => [(0, vR x.2.2.2 x0), (1, .int s.1)]) [] (fun s => s.2) (fun r => r = u)) := by
      intro x1 h
      unfold mX12_laysInjuries_l2f
      refine j_iload_n (q := 3) hx (dc kX12_laysInjuries_0 2 rfl) rfl 1 rfl rfl ?_
      refine j_bipush (q := 5) (v := (8 : Int32)) hx (dc kX12_laysInjuries_0 3 rfl) (by decide) rfl ?_
      refine j_icmp_geS (q := 8) (tgt := 21) hx (dc kX12_laysInjuries_0 4 rfl) (by decide) rfl ?_ ?_
      · refine j_exit ?_
        refine j_iconst (q := 22) (v := (0 : Int32)) hx (dc kX12_laysInjuries_0 12 rfl) (by decide) rfl ?_
        refine j_istore_n (q := 23) (i := 1) (l2 := [(0, vR x.2.2.2 x0)]) hx (dc kX12_laysInjuries_0 13 rfl) rfl (hn 1 (by decide)) [0] rfl ⟨⟨show (0 : Nat) ≠ 1 by decide, Or.inr (vR_cat _ _)⟩, trivial⟩ rfl ?_
        exact j_sub [1, 0] rfl (hb23 x0 (0 : Int32) h)
      · refine j_aload_n (q := 9) hx (dc kX12_laysInjuries_0 5 rfl) rfl 0 rfl rfl ?_
        refine w_gR (q := 12) hx (dc kX12_laysInjuries_0 6 rfl) ff_X12_30 lk_X12_64 rfl (fun v25 => ?_)
        refine j_iload_n (q := 13) hx (dc kX12_laysInjuries_0 7 rfl) rfl 1 rfl rfl ?_
        refine j_iload_n (q := 14) hx (dc kX12_laysInjuries_0 8 rfl) rfl 1 rfl rfl ?_
        refine w_stI (q := 15) hx (dc kX12_laysInjuries_0 9 rfl) rfl (fun h26 => ?_)
        refine j_iinc (q := 18) (l2 := [(0, vR x.2.2.2 x0)]) hx (dc kX12_laysInjuries_0 10 rfl) 1 rfl (v := (1 : Int32)) (by decide) (hn 1 (by decide)) [0] rfl ⟨⟨show (0 : Nat) ≠ 1 by decide, Or.inr (vR_cat _ _)⟩, trivial⟩ rfl ?_
        refine j_goto (q := 2) hx (dc kX12_laysInjuries_0 11 rfl) (by decide) ?_
        exact j_back [1, 0] ((x1 + (1 : Int32)), h26) rfl rfl
    exact j_loop (S := (Int32 × Hp)) (lvf := fun s => [(0, vR x.2.2.2 x0), (1, .int s.1)]) (hpf := fun s => s.2) (f := (fun s : (Int32 × Hp) => mX12_laysInjuries_l2f x0 s.1 s.2)) (fun s => hB s.1 s.2) (x1, h)
  unfold mX12_laysInjuries
  refine J.ckd fun hck => ?_
  refine j_iconst (q := 1) (v := (0 : Int32)) hx (dc kX12_laysInjuries_0 0 rfl) (by decide) rfl ?_
  refine j_istore_n (q := 2) (i := 1) (l2 := [(0, vR x.2.2.2 x0)]) hx (dc kX12_laysInjuries_0 1 rfl) rfl (hn 1 (by decide)) [0] rfl ⟨⟨show (0 : Nat) ≠ 1 by decide, Or.inr (vR_cat _ _)⟩, trivial⟩ rfl ?_
  exact j_sub [1, 0] rfl (hb2 x0 (0 : Int32) h)

set_option maxHeartbeats 4000000 in
set_option maxRecDepth 100000 in
theorem sX12_sayers (l : Launch) (w : Wd) (x0 : Nat) (x1 : Int32) (h : Hp) (u : Int32) (hK : mX12_sayers x0 x1 h = some u) : M1 l w mi_X12_sayers 2 [vR w x0, .int x1] h h (some (.int u)) := by
  refine M1.of (own := RX12) (T := fun _ r => r = u) hK (by decide +kernel) rfl (by first | (simp only [lg_lenR, lg_lenI, lg_lenL, lg_len0]; decide) | decide) (fun x hx hnl hhf hl hw hret hnm hQ h0e => ⟨?_, rfl⟩)
  subst hw
  subst hl
  have hR : Rt x h h (some (.int u)) ((some .int)) := ⟨h0e, hhf, hret, hQ⟩
  have hn : ∀ i, i < 4 → i < x.2.2.1.1.1 := fun i hi => by rw [hnl]; exact hi
  have e0 : lv_args 0 [vR x.2.2.2 x0, .int x1] = [(0, vR x.2.2.2 x0), (1, .int x1)] := by simp only [lv_argsR, lv_argsI, lv_argsL, lv_args0]
  rw [e0]
  have hb4 : ∀ (x0 : Nat) (x1 : Int32) (x2 : Int32) (x3 : Int32), J x 4 [(0, vR x.2.2.2 x0), (1, .int x1), (2, .int x2), (3, .int x3)] [] h (mX12_sayers_l4 x0 x1 x2 x3 h) (fun r => r = u) := by
    intro x0 x1 x2 x3
    have hB : ∀ (x2 : Int32) (x3 : Int32), J x 4 [(0, vR x.2.2.2 x0), (1, .int x1), (2, .int x2), (3, .int x3)] [] h (mX12_sayers_l4f x0 x1 h x2 x3) (TL (S := (Int32 × Int32)) x 4 (fun s => [(0, vR x.2.2.2 x0), (1, .int x1), (2, .int s.1), (3, .int s.2)]) [] (fun s => h) (fun r => r = u)) := by
      intro x2 x3
      have hb36 : ∀ (x0 : Nat) (x1 : Int32) (x3 : Int32) (t0 : Int32) (t1 : Int32), J x 36 [(0, vR x.2.2.2 x0), (1, .int x1), (3, .int x3)] [.int t1, .int t0] h (mX12_sayers_b36 x0 x1 x3 t0 t1 h) (TL (S := (Int32 × Int32)) x 4 (fun s => [(0, vR x.2.2.2 x0), (1, .int x1), (2, .int s.1), (3, .int s.2)]) [] (fun s => h) (fun r => r = u)) := by
        intro x0 x1 x3 t0 t1
        unfold mX12_sayers_b36
        refine j_ior (q := 37) hx (dc kX12_sayers_0 23 rfl) rfl ?_
        refine j_istore_n (q := 38) (i := 2) (l2 := [(0, vR x.2.2.2 x0), (1, .int x1), (3, .int x3)]) hx (dc kX12_sayers_0 24 rfl) rfl (hn 2 (by decide)) [0, 1, 2] rfl ⟨⟨show (0 : Nat) ≠ 2 by decide, Or.inl (show (0 : Nat) + 1 ≠ 2 by decide)⟩, ⟨⟨show (1 : Nat) ≠ 2 by decide, Or.inr rfl⟩, ⟨⟨show (3 : Nat) ≠ 2 by decide, Or.inl (show (3 : Nat) + 1 ≠ 2 by decide)⟩, trivial⟩⟩⟩ rfl ?_
        refine j_iinc (q := 41) (l2 := [(2, .int (t0 ||| t1)), (0, vR x.2.2.2 x0), (1, .int x1)]) hx (dc kX12_sayers_0 25 rfl) 3 rfl (v := (1 : Int32)) (by decide) (hn 3 (by decide)) [0, 1, 2] rfl ⟨⟨show (2 : Nat) ≠ 3 by decide, Or.inr rfl⟩, ⟨⟨show (0 : Nat) ≠ 3 by decide, Or.inl (show (0 : Nat) + 1 ≠ 3 by decide)⟩, ⟨⟨show (1 : Nat) ≠ 3 by decide, Or.inl (show (1 : Nat) + 1 ≠ 3 by decide)⟩, trivial⟩⟩⟩ rfl ?_
        refine j_goto (q := 4) hx (dc kX12_sayers_0 26 rfl) (by decide) ?_
        exact j_back [2, 3, 1, 0] ((t0 ||| t1), (x3 + (1 : Int32))) rfl rfl
      unfold mX12_sayers_l4f
      refine j_iload_n (q := 5) hx (dc kX12_sayers_0 4 rfl) rfl 3 rfl rfl ?_
      refine j_aload_n (q := 6) hx (dc kX12_sayers_0 5 rfl) rfl 0 rfl rfl ?_
      refine w_gR (q := 9) hx (dc kX12_sayers_0 6 rfl) ff_X12_4 lk_X12_23 rfl (fun v1 => ?_)
      refine j_bipush (q := 11) (v := (18 : Int32)) hx (dc kX12_sayers_0 7 rfl) (by decide) rfl ?_
      refine j_ldI (q := 12) hx (dc kX12_sayers_0 8 rfl) rfl (fun v2 => ?_)
      refine j_icmp_geS (q := 15) (tgt := 44) hx (dc kX12_sayers_0 9 rfl) (by decide) rfl ?_ ?_
      · refine j_exit ?_
        refine j_iload_n (q := 45) hx (dc kX12_sayers_0 27 rfl) rfl 2 rfl rfl ?_
        exact r_iR hx hR (dc kX12_sayers_0 28 rfl)
      · refine j_iload_n (q := 16) hx (dc kX12_sayers_0 10 rfl) rfl 2 rfl rfl ?_
        refine j_aload_n (q := 17) hx (dc kX12_sayers_0 11 rfl) rfl 0 rfl rfl ?_
        refine j_iload_n (q := 18) hx (dc kX12_sayers_0 12 rfl) rfl 3 rfl rfl ?_
        refine j_iconst (q := 19) (v := (4 : Int32)) hx (dc kX12_sayers_0 13 rfl) (by decide) rfl ?_
        refine w_cVIR (q := 22) (As := [.int x3, .int (4 : Int32)]) (st := [.int x2]) hx (dc kX12_sayers_0 14 rfl) cf12 (by decide) rfl (cI _ my_X12_its lm_X12_339 (by decide)) vs_X12_its rfl (fun u hu => sX12_its _ _ _ _ _ _ _ hu) (fun e => ite_ne (by unfold mX12_its at e; exact e)) (sum_le (sum_I sum_nil) (by decide)) rfl (fun v3 => ?_)
        refine j_iload_n (q := 23) hx (dc kX12_sayers_0 15 rfl) rfl 1 rfl rfl ?_
        refine w_cSIR (q := 26) (As := [.int v3, .int x1]) (st := [.int x2]) hx (dc kX12_sayers_0 16 rfl) (cI _ my_X12_has lm_X12_239 (by decide)) st_X12_has rfl (fun u hu => sX12_has _ _ _ _ _ _ hu) (sum_le (sum_I sum_nil) (by decide)) rfl (fun v5 => ?_)
        refine j_if_eq (q := 29) (tgt := 35) hx (dc kX12_sayers_0 17 rfl) (by decide) Iff.rfl rfl ?_ ?_
        · refine j_iconst (q := 36) (v := (0 : Int32)) hx (dc kX12_sayers_0 22 rfl) (by decide) rfl ?_
          exact j_sub [0, 1, 3] rfl (hb36 x0 x1 x3 x2 (0 : Int32))
        · refine j_iconst (q := 30) (v := (1 : Int32)) hx (dc kX12_sayers_0 18 rfl) (by decide) rfl ?_
          refine j_iload_n (q := 31) hx (dc kX12_sayers_0 19 rfl) rfl 3 rfl rfl ?_
          refine j_ishl (q := 32) hx (dc kX12_sayers_0 20 rfl) rfl ?_
          refine j_goto (q := 36) hx (dc kX12_sayers_0 21 rfl) (by decide) ?_
          exact j_sub [0, 1, 3] rfl (hb36 x0 x1 x3 x2 ((1 : Int32) <<< (x3 &&& 31)))
    exact j_loop (S := (Int32 × Int32)) (lvf := fun s => [(0, vR x.2.2.2 x0), (1, .int x1), (2, .int s.1), (3, .int s.2)]) (hpf := fun s => h) (f := (fun s : (Int32 × Int32) => mX12_sayers_l4f x0 x1 h s.1 s.2)) (fun s => hB s.1 s.2) (x2, x3)
  unfold mX12_sayers
  refine J.ckd fun hck => ?_
  refine j_iconst (q := 1) (v := (0 : Int32)) hx (dc kX12_sayers_0 0 rfl) (by decide) rfl ?_
  refine j_istore_n (q := 2) (i := 2) (l2 := [(0, vR x.2.2.2 x0), (1, .int x1)]) hx (dc kX12_sayers_0 1 rfl) rfl (hn 2 (by decide)) [0, 1] rfl ⟨⟨show (0 : Nat) ≠ 2 by decide, Or.inl (show (0 : Nat) + 1 ≠ 2 by decide)⟩, ⟨⟨show (1 : Nat) ≠ 2 by decide, Or.inr rfl⟩, trivial⟩⟩ rfl ?_
  refine j_iconst (q := 3) (v := (0 : Int32)) hx (dc kX12_sayers_0 2 rfl) (by decide) rfl ?_
  refine j_istore_n (q := 4) (i := 3) (l2 := [(2, .int (0 : Int32)), (0, vR x.2.2.2 x0), (1, .int x1)]) hx (dc kX12_sayers_0 3 rfl) rfl (hn 3 (by decide)) [0, 1, 2] rfl ⟨⟨show (2 : Nat) ≠ 3 by decide, Or.inr rfl⟩, ⟨⟨show (0 : Nat) ≠ 3 by decide, Or.inl (show (0 : Nat) + 1 ≠ 3 by decide)⟩, ⟨⟨show (1 : Nat) ≠ 3 by decide, Or.inl (show (1 : Nat) + 1 ≠ 3 by decide)⟩, trivial⟩⟩⟩ rfl ?_
  exact j_sub [2, 3, 1, 0] rfl (hb4 x0 x1 (0 : Int32) (0 : Int32))

set_option maxHeartbeats 4000000 in
set_option maxRecDepth 100000 in
theorem sX12_fact (l : Launch) (w : Wd) (x0 : Nat) (x1 : Int32) (x2 : Int32) (h : Hp) (u : Int32) (hK : mX12_fact x0 x1 x2 h = some u) : M1 l w mi_X12_fact 3 [vR w x0, .int x1, .int x2] h h (some (.int u)) := by
  refine M1.of (own := RX12) (T := fun _ r => r = u) hK (by decide +kernel) rfl (by first | (simp only [lg_lenR, lg_lenI, lg_lenL, lg_len0]; decide) | decide) (fun x hx hnl hhf hl hw hret hnm hQ h0e => ⟨?_, rfl⟩)
  subst hw
  subst hl
  have hR : Rt x h h (some (.int u)) ((some .int)) := ⟨h0e, hhf, hret, hQ⟩
  have hn : ∀ i, i < 3 → i < x.2.2.1.1.1 := fun i hi => by rw [hnl]; exact hi
  have e0 : lv_args 0 [vR x.2.2.2 x0, .int x1, .int x2] = [(0, vR x.2.2.2 x0), (1, .int x1), (2, .int x2)] := by simp only [lv_argsR, lv_argsI, lv_argsL, lv_args0]
  rw [e0]
  unfold mX12_fact
  refine J.ckd fun hck => ?_
  refine j_aload_n (q := 1) hx (dc kX12_fact_0 0 rfl) rfl 0 rfl rfl ?_
  refine j_iload_n (q := 2) hx (dc kX12_fact_0 1 rfl) rfl 1 rfl rfl ?_
  refine w_cVIR (q := 5) (As := [.int x1]) (st := []) hx (dc kX12_fact_0 2 rfl) cf12 (by decide) rfl (cI _ my_X12_isFact lm_X12_374 (by decide)) vs_X12_isFact rfl (fun u hu => sX12_isFact _ _ _ _ _ _ hu) (fun e => ite_ne (by unfold mX12_isFact at e; exact e)) (Nat.zero_le _) rfl (fun v1 => ?_)
  refine j_if_neS (q := 8) (tgt := 10) hx (dc kX12_fact_0 3 rfl) (by decide) rfl ?_ ?_
  · refine j_iload_n (q := 11) hx (dc kX12_fact_0 6 rfl) rfl 2 rfl rfl ?_
    refine j_tsw (td := 87) hx (dc kX12_fact_0 7 rfl) (by decide) (by decide) ?_ ?_
    · refine j_iconst (q := 88) (v := (-1 : Int32)) hx (dc kX12_fact_0 39 rfl) (by decide) rfl ?_
      exact r_iR hx hR (dc kX12_fact_0 40 rfl)
    · refine ⟨⟨40, by decide, ?_⟩, ⟨50, by decide, ?_⟩, ⟨59, by decide, ?_⟩, ⟨81, by decide, ?_⟩, trivial⟩
      · refine j_aload_n (q := 41) hx (dc kX12_fact_0 8 rfl) rfl 0 rfl rfl ?_
        refine w_gR (q := 44) hx (dc kX12_fact_0 9 rfl) ff_X12_0 lk_X12_7 rfl (fun v3 => ?_)
        refine j_bipush (q := 46) (v := (8 : Int32)) hx (dc kX12_fact_0 10 rfl) (by decide) rfl ?_
        refine j_iload_n (q := 47) hx (dc kX12_fact_0 11 rfl) rfl 1 rfl rfl ?_
        refine j_iadd (q := 48) hx (dc kX12_fact_0 12 rfl) rfl ?_
        refine j_ldI (q := 49) hx (dc kX12_fact_0 13 rfl) rfl (fun v4 => ?_)
        exact r_iR hx hR (dc kX12_fact_0 14 rfl)
      · refine j_aload_n (q := 51) hx (dc kX12_fact_0 15 rfl) rfl 0 rfl rfl ?_
        refine w_gR (q := 54) hx (dc kX12_fact_0 16 rfl) ff_X12_4 lk_X12_23 rfl (fun v5 => ?_)
        refine j_iconst (q := 55) (v := (0 : Int32)) hx (dc kX12_fact_0 17 rfl) (by decide) rfl ?_
        refine j_iload_n (q := 56) hx (dc kX12_fact_0 18 rfl) rfl 1 rfl rfl ?_
        refine j_iadd (q := 57) hx (dc kX12_fact_0 19 rfl) rfl ?_
        refine j_ldI (q := 58) hx (dc kX12_fact_0 20 rfl) rfl (fun v6 => ?_)
        exact r_iR hx hR (dc kX12_fact_0 21 rfl)
      · refine j_aload_n (q := 60) hx (dc kX12_fact_0 22 rfl) rfl 0 rfl rfl ?_
        refine j_iload_n (q := 61) hx (dc kX12_fact_0 23 rfl) rfl 1 rfl rfl ?_
        refine w_cVIR (q := 64) (As := [.int x1]) (st := []) hx (dc kX12_fact_0 24 rfl) cf12 (by decide) rfl (cI _ my_X12_isKnown lm_X12_326 (by decide)) vs_X12_isKnown rfl (fun u hu => sX12_isKnown _ _ _ _ _ _ hu) (fun e => ite_ne (by unfold mX12_isKnown at e; exact e)) (Nat.zero_le _) rfl (fun v7 => ?_)
        refine j_if_eq (q := 67) (tgt := 79) hx (dc kX12_fact_0 25 rfl) (by decide) Iff.rfl rfl ?_ ?_
        · refine j_iconst (q := 80) (v := (2 : Int32)) hx (dc kX12_fact_0 33 rfl) (by decide) rfl ?_
          exact r_iR hx hR (dc kX12_fact_0 34 rfl)
        · refine j_aload_n (q := 68) hx (dc kX12_fact_0 26 rfl) rfl 0 rfl rfl ?_
          refine w_gR (q := 71) hx (dc kX12_fact_0 27 rfl) ff_X12_4 lk_X12_23 rfl (fun v9 => ?_)
          refine j_bipush (q := 73) (v := (8 : Int32)) hx (dc kX12_fact_0 28 rfl) (by decide) rfl ?_
          refine j_iload_n (q := 74) hx (dc kX12_fact_0 29 rfl) rfl 1 rfl rfl ?_
          refine j_iadd (q := 75) hx (dc kX12_fact_0 30 rfl) rfl ?_
          refine j_ldI (q := 76) hx (dc kX12_fact_0 31 rfl) rfl (fun v10 => ?_)
          refine j_goto (q := 80) hx (dc kX12_fact_0 32 rfl) (by decide) ?_
          exact r_iR hx hR (dc kX12_fact_0 34 rfl)
      · refine j_aload_n (q := 82) hx (dc kX12_fact_0 35 rfl) rfl 0 rfl rfl ?_
        refine j_iload_n (q := 83) hx (dc kX12_fact_0 36 rfl) rfl 1 rfl rfl ?_
        refine w_cVIR (q := 86) (As := [.int x1]) (st := []) hx (dc kX12_fact_0 37 rfl) cf12 (by decide) rfl (cI _ my_X12_sayers lm_X12_377 (by decide)) vs_X12_sayers rfl (fun u hu => sX12_sayers _ _ _ _ _ _ hu) (fun e => ite_ne (by unfold mX12_sayers at e; exact e)) (Nat.zero_le _) rfl (fun v11 => ?_)
        exact r_iR hx hR (dc kX12_fact_0 38 rfl)
  · refine j_iconst (q := 9) (v := (-1 : Int32)) hx (dc kX12_fact_0 4 rfl) (by decide) rfl ?_
    exact r_iR hx hR (dc kX12_fact_0 5 rfl)

set_option maxHeartbeats 4000000 in
set_option maxRecDepth 100000 in
theorem sX12_of (l : Launch) (w : Wd) (x0 : Nat) (x1 : Int32) (x2 : Int32) (h : Hp) (u : (Int32 × Hp)) (hK : mX12_of x0 x1 x2 h = some u) : M1 l w mi_X12_of 6 [vR w x0, .int x1, .int x2] h u.2 (some (.int u.1)) := by
  refine M1.of (own := RX12) (T := fun _ r => r = u) hK (by decide +kernel) rfl (by first | (simp only [lg_lenR, lg_lenI, lg_lenL, lg_len0]; decide) | decide) (fun x hx hnl hhf hl hw hret hnm hQ h0e => ⟨?_, rfl⟩)
  subst hw
  subst hl
  have hR : Rt x h u.2 (some (.int u.1)) ((some .int)) := ⟨h0e, hhf, hret, hQ⟩
  have hn : ∀ i, i < 3 → i < x.2.2.1.1.1 := fun i hi => by rw [hnl]; exact hi
  have e0 : lv_args 0 [vR x.2.2.2 x0, .int x1, .int x2] = [(0, vR x.2.2.2 x0), (1, .int x1), (2, .int x2)] := by simp only [lv_argsR, lv_argsI, lv_argsL, lv_args0]
  rw [e0]
  unfold mX12_of
  refine J.ckd fun hck => ?_
  refine j_aload_n (q := 1) hx (dc kX12_of_0 0 rfl) rfl 0 rfl rfl ?_
  refine j_iload_n (q := 2) hx (dc kX12_of_0 1 rfl) rfl 1 rfl rfl ?_
  refine w_cVIR (q := 5) (As := [.int x1]) (st := []) hx (dc kX12_of_0 2 rfl) cf12 (by decide) rfl (cI _ my_X12_isCount lm_X12_380 (by decide)) vs_X12_isCount rfl (fun u hu => sX12_isCount _ _ _ _ _ _ hu) (fun e => ite_ne (by unfold mX12_isCount at e; exact e)) (Nat.zero_le _) rfl (fun v1 => ?_)
  refine j_if_neS (q := 8) (tgt := 10) hx (dc kX12_of_0 3 rfl) (by decide) rfl ?_ ?_
  · refine j_aload_n (q := 11) hx (dc kX12_of_0 6 rfl) rfl 0 rfl rfl ?_
    refine w_cVVW (q := 14) (As := []) (st := []) hx (dc kX12_of_0 7 rfl) cf12 (by decide) rfl (cI _ my_X12_laysBacks lm_X12_364 (by decide)) vs_X12_laysBacks rfl (fun u hu => sX12_laysBacks _ _ _ _ _ hu) (fun e => ite_ne (by unfold mX12_laysBacks at e; exact e)) (Nat.zero_le _) rfl (fun h4 => ?_)
    refine j_aload_n (q := 15) hx (dc kX12_of_0 8 rfl) rfl 0 rfl rfl ?_
    refine w_cVVW (q := 18) (As := []) (st := []) hx (dc kX12_of_0 9 rfl) cf12 (by decide) rfl (cI _ my_X12_laysInjuries lm_X12_383 (by decide)) vs_X12_laysInjuries rfl (fun u hu => sX12_laysInjuries _ _ _ _ _ hu) (fun e => ite_ne (by unfold mX12_laysInjuries at e; exact e)) (Nat.zero_le _) rfl (fun h6 => ?_)
    refine j_iload_n (q := 19) hx (dc kX12_of_0 10 rfl) rfl 2 rfl rfl ?_
    refine j_tsw (td := 157) hx (dc kX12_of_0 11 rfl) (by decide) (by decide) ?_ ?_
    · refine j_iconst (q := 158) (v := (-1 : Int32)) hx (dc kX12_of_1 5 rfl) (by decide) rfl ?_
      exact r_iW hx hR (dc kX12_of_1 6 rfl)
    · refine ⟨⟨76, by decide, ?_⟩, ⟨83, by decide, ?_⟩, ⟨90, by decide, ?_⟩, ⟨97, by decide, ?_⟩, ⟨104, by decide, ?_⟩, ⟨118, by decide, ?_⟩, ⟨124, by decide, ?_⟩, ⟨130, by decide, ?_⟩, ⟨137, by decide, ?_⟩, ⟨144, by decide, ?_⟩, ⟨150, by decide, ?_⟩, trivial⟩
      · refine j_aload_n (q := 77) hx (dc kX12_of_0 12 rfl) rfl 0 rfl rfl ?_
        refine j_iload_n (q := 78) hx (dc kX12_of_0 13 rfl) rfl 1 rfl rfl ?_
        refine j_iconst (q := 79) (v := (2 : Int32)) hx (dc kX12_of_0 14 rfl) (by decide) rfl ?_
        refine w_cVIR (q := 82) (As := [.int x1, .int (2 : Int32)]) (st := []) hx (dc kX12_of_0 15 rfl) cf12 (by decide) rfl (cI _ my_X12_its lm_X12_339 (by decide)) vs_X12_its rfl (fun u hu => sX12_its _ _ _ _ _ _ _ hu) (fun e => ite_ne (by unfold mX12_its at e; exact e)) (Nat.zero_le _) rfl (fun v7 => ?_)
        exact r_iW hx hR (dc kX12_of_0 16 rfl)
      · refine j_aload_n (q := 84) hx (dc kX12_of_0 17 rfl) rfl 0 rfl rfl ?_
        refine j_iload_n (q := 85) hx (dc kX12_of_0 18 rfl) rfl 1 rfl rfl ?_
        refine j_iconst (q := 86) (v := (3 : Int32)) hx (dc kX12_of_0 19 rfl) (by decide) rfl ?_
        refine w_cVIR (q := 89) (As := [.int x1, .int (3 : Int32)]) (st := []) hx (dc kX12_of_0 20 rfl) cf12 (by decide) rfl (cI _ my_X12_its lm_X12_339 (by decide)) vs_X12_its rfl (fun u hu => sX12_its _ _ _ _ _ _ _ hu) (fun e => ite_ne (by unfold mX12_its at e; exact e)) (Nat.zero_le _) rfl (fun v9 => ?_)
        exact r_iW hx hR (dc kX12_of_0 21 rfl)
      · refine j_aload_n (q := 91) hx (dc kX12_of_0 22 rfl) rfl 0 rfl rfl ?_
        refine j_iload_n (q := 92) hx (dc kX12_of_0 23 rfl) rfl 1 rfl rfl ?_
        refine j_iconst (q := 93) (v := (1 : Int32)) hx (dc kX12_of_0 24 rfl) (by decide) rfl ?_
        refine w_cVIR (q := 96) (As := [.int x1, .int (1 : Int32)]) (st := []) hx (dc kX12_of_0 25 rfl) cf12 (by decide) rfl (cI _ my_X12_its lm_X12_339 (by decide)) vs_X12_its rfl (fun u hu => sX12_its _ _ _ _ _ _ _ hu) (fun e => ite_ne (by unfold mX12_its at e; exact e)) (Nat.zero_le _) rfl (fun v11 => ?_)
        exact r_iW hx hR (dc kX12_of_0 26 rfl)
      · refine j_aload_n (q := 98) hx (dc kX12_of_0 27 rfl) rfl 0 rfl rfl ?_
        refine w_gR (q := 101) hx (dc kX12_of_0 28 rfl) ff_X12_29 lk_X12_61 rfl (fun v13 => ?_)
        refine j_iload_n (q := 102) hx (dc kX12_of_0 29 rfl) rfl 1 rfl rfl ?_
        refine j_ldI (q := 103) hx (dc kX12_of_0 30 rfl) rfl (fun v14 => ?_)
        exact r_iW hx hR (dc kX12_of_0 31 rfl)
      · refine j_aload_n (q := 105) hx (dc kX12_of_0 32 rfl) rfl 0 rfl rfl ?_
        refine j_iload_n (q := 106) hx (dc kX12_of_0 33 rfl) rfl 1 rfl rfl ?_
        refine j_iconst (q := 107) (v := (3 : Int32)) hx (dc kX12_of_0 34 rfl) (by decide) rfl ?_
        refine w_cVIR (q := 110) (As := [.int x1, .int (3 : Int32)]) (st := []) hx (dc kX12_of_0 35 rfl) cf12 (by decide) rfl (cI _ my_X12_its lm_X12_339 (by decide)) vs_X12_its rfl (fun u hu => sX12_its _ _ _ _ _ _ _ hu) (fun e => ite_ne (by unfold mX12_its at e; exact e)) (Nat.zero_le _) rfl (fun v15 => ?_)
        refine j_aload_n (q := 111) hx (dc kX12_of_0 36 rfl) rfl 0 rfl rfl ?_
        refine w_gR (q := 114) hx (dc kX12_of_0 37 rfl) ff_X12_29 lk_X12_61 rfl (fun v17 => ?_)
        refine j_iload_n (q := 115) hx (dc kX12_of_0 38 rfl) rfl 1 rfl rfl ?_
        refine j_ldI (q := 116) hx (dc kX12_of_0 39 rfl) rfl (fun v18 => ?_)
        refine j_iadd (q := 117) hx (dc kX12_of_0 40 rfl) rfl ?_
        exact r_iW hx hR (dc kX12_of_0 41 rfl)
      · refine j_aload_n (q := 119) hx (dc kX12_of_0 42 rfl) rfl 0 rfl rfl ?_
        refine j_iload_n (q := 120) hx (dc kX12_of_0 43 rfl) rfl 1 rfl rfl ?_
        refine w_cVIR (q := 123) (As := [.int x1]) (st := []) hx (dc kX12_of_0 44 rfl) cf12 (by decide) rfl (cI _ my_X12_needs lm_X12_353 (by decide)) vs_X12_needs rfl (fun u hu => sX12_needs _ _ _ _ _ _ hu) (fun e => ite_ne (by unfold mX12_needs at e; exact e)) (Nat.zero_le _) rfl (fun v19 => ?_)
        exact r_iW hx hR (dc kX12_of_0 45 rfl)
      · refine j_aload_n (q := 125) hx (dc kX12_of_0 46 rfl) rfl 0 rfl rfl ?_
        refine j_iload_n (q := 126) hx (dc kX12_of_0 47 rfl) rfl 1 rfl rfl ?_
        refine w_cVIR (q := 129) (As := [.int x1]) (st := []) hx (dc kX12_of_0 48 rfl) cf12 (by decide) rfl (cI _ my_X12_bars lm_X12_361 (by decide)) vs_X12_bars rfl (fun u hu => sX12_bars _ _ _ _ _ _ hu) (fun e => ite_ne (by unfold mX12_bars at e; exact e)) (Nat.zero_le _) rfl (fun v21 => ?_)
        exact r_iW hx hR (dc kX12_of_0 49 rfl)
      · refine j_aload_n (q := 131) hx (dc kX12_of_0 50 rfl) rfl 0 rfl rfl ?_
        refine j_iload_n (q := 132) hx (dc kX12_of_0 51 rfl) rfl 1 rfl rfl ?_
        refine j_iconst (q := 133) (v := (4 : Int32)) hx (dc kX12_of_0 52 rfl) (by decide) rfl ?_
        refine w_cVIR (q := 136) (As := [.int x1, .int (4 : Int32)]) (st := []) hx (dc kX12_of_0 53 rfl) cf12 (by decide) rfl (cI _ my_X12_its lm_X12_339 (by decide)) vs_X12_its rfl (fun u hu => sX12_its _ _ _ _ _ _ _ hu) (fun e => ite_ne (by unfold mX12_its at e; exact e)) (Nat.zero_le _) rfl (fun v23 => ?_)
        exact r_iW hx hR (dc kX12_of_0 54 rfl)
      · refine j_aload_n (q := 138) hx (dc kX12_of_0 55 rfl) rfl 0 rfl rfl ?_
        refine j_iload_n (q := 139) hx (dc kX12_of_0 56 rfl) rfl 1 rfl rfl ?_
        refine j_iconst (q := 140) (v := (5 : Int32)) hx (dc kX12_of_0 57 rfl) (by decide) rfl ?_
        refine w_cVIR (q := 143) (As := [.int x1, .int (5 : Int32)]) (st := []) hx (dc kX12_of_0 58 rfl) cf12 (by decide) rfl (cI _ my_X12_its lm_X12_339 (by decide)) vs_X12_its rfl (fun u hu => sX12_its _ _ _ _ _ _ _ hu) (fun e => ite_ne (by unfold mX12_its at e; exact e)) (Nat.zero_le _) rfl (fun v25 => ?_)
        exact r_iW hx hR (dc kX12_of_0 59 rfl)
      · refine j_aload_n (q := 145) hx (dc kX12_of_0 60 rfl) rfl 0 rfl rfl ?_
        refine j_iload_n (q := 146) hx (dc kX12_of_0 61 rfl) rfl 1 rfl rfl ?_
        refine w_cVIW (q := 149) (As := [.int x1]) (st := []) hx (dc kX12_of_0 62 rfl) cf12 (by decide) rfl (cI _ my_X12_failing lm_X12_371 (by decide)) vs_X12_failing rfl (fun u hu => sX12_failing _ _ _ _ _ _ hu) (fun e => ite_ne (by unfold mX12_failing at e; exact e)) (Nat.zero_le _) rfl (fun v27 h28 => ?_)
        exact r_iW hx hR (dc kX12_of_0 63 rfl)
      · refine j_aload_n (q := 151) hx (dc kX12_of_1 0 rfl) rfl 0 rfl rfl ?_
        refine w_gR (q := 154) hx (dc kX12_of_1 1 rfl) ff_X12_30 lk_X12_64 rfl (fun v29 => ?_)
        refine j_iload_n (q := 155) hx (dc kX12_of_1 2 rfl) rfl 1 rfl rfl ?_
        refine j_ldI (q := 156) hx (dc kX12_of_1 3 rfl) rfl (fun v30 => ?_)
        exact r_iW hx hR (dc kX12_of_1 4 rfl)
  · refine j_iconst (q := 9) (v := (-1 : Int32)) hx (dc kX12_of_0 4 rfl) (by decide) rfl ?_
    exact r_iW hx hR (dc kX12_of_0 5 rfl)

set_option maxHeartbeats 4000000 in
set_option maxRecDepth 100000 in
theorem sX12_andOf (l : Launch) (w : Wd) (x0 : Int32) (x1 : Int32) (h : Hp) (u : Int32) (hK : mX12_andOf x0 x1 = some u) : M1 l w mi_X12_andOf 1 [.int x0, .int x1] h h (some (.int u)) := by
  refine M1.of (own := RX12) (T := fun _ r => r = u) hK (by decide +kernel) rfl (by first | (simp only [lg_lenR, lg_lenI, lg_lenL, lg_len0]; decide) | decide) (fun x hx hnl hhf hl hw hret hnm hQ h0e => ⟨?_, rfl⟩)
  subst hw
  subst hl
  have hR : Rt x h h (some (.int u)) ((some .int)) := ⟨h0e, hhf, hret, hQ⟩
  have hn : ∀ i, i < 2 → i < x.2.2.1.1.1 := fun i hi => by rw [hnl]; exact hi
  have e0 : lv_args 0 [.int x0, .int x1] = [(0, .int x0), (1, .int x1)] := by simp only [lv_argsR, lv_argsI, lv_argsL, lv_args0]
  rw [e0]
  unfold mX12_andOf
  refine j_iload_n (q := 1) hx (dc kX12_andOf_0 0 rfl) rfl 0 rfl rfl ?_
  refine j_if_eq (q := 4) (tgt := 8) hx (dc kX12_andOf_0 1 rfl) (by decide) Iff.rfl rfl ?_ ?_
  · refine j_iconst (q := 9) (v := (0 : Int32)) hx (dc kX12_andOf_0 4 rfl) (by decide) rfl ?_
    refine j_goto (q := 27) hx (dc kX12_andOf_0 5 rfl) (by decide) ?_
    exact r_iR hx hR (dc kX12_andOf_0 15 rfl)
  · refine j_iload_n (q := 5) hx (dc kX12_andOf_0 2 rfl) rfl 1 rfl rfl ?_
    refine j_if_neS (q := 8) (tgt := 12) hx (dc kX12_andOf_0 3 rfl) (by decide) rfl ?_ ?_
    · refine j_iload_n (q := 13) hx (dc kX12_andOf_0 6 rfl) rfl 0 rfl rfl ?_
      refine j_iconst (q := 14) (v := (1 : Int32)) hx (dc kX12_andOf_0 7 rfl) (by decide) rfl ?_
      refine j_icmp_neS (q := 17) (tgt := 26) hx (dc kX12_andOf_0 8 rfl) (by decide) rfl ?_ ?_
      · refine j_iconst (q := 27) (v := (2 : Int32)) hx (dc kX12_andOf_0 14 rfl) (by decide) rfl ?_
        exact r_iR hx hR (dc kX12_andOf_0 15 rfl)
      · refine j_iload_n (q := 18) hx (dc kX12_andOf_0 9 rfl) rfl 1 rfl rfl ?_
        refine j_iconst (q := 19) (v := (1 : Int32)) hx (dc kX12_andOf_0 10 rfl) (by decide) rfl ?_
        refine j_icmp_neS (q := 22) (tgt := 26) hx (dc kX12_andOf_0 11 rfl) (by decide) rfl ?_ ?_
        · refine j_iconst (q := 27) (v := (2 : Int32)) hx (dc kX12_andOf_0 14 rfl) (by decide) rfl ?_
          exact r_iR hx hR (dc kX12_andOf_0 15 rfl)
        · refine j_iconst (q := 23) (v := (1 : Int32)) hx (dc kX12_andOf_0 12 rfl) (by decide) rfl ?_
          refine j_goto (q := 27) hx (dc kX12_andOf_0 13 rfl) (by decide) ?_
          exact r_iR hx hR (dc kX12_andOf_0 15 rfl)
    · refine j_iconst (q := 9) (v := (0 : Int32)) hx (dc kX12_andOf_0 4 rfl) (by decide) rfl ?_
      refine j_goto (q := 27) hx (dc kX12_andOf_0 5 rfl) (by decide) ?_
      exact r_iR hx hR (dc kX12_andOf_0 15 rfl)

set_option maxHeartbeats 4000000 in
set_option maxRecDepth 100000 in
theorem sX12_turned (l : Launch) (w : Wd) (x0 : Int32) (h : Hp) (u : Int32) (hK : mX12_turned x0 = some u) : M1 l w mi_X12_turned 1 [.int x0] h h (some (.int u)) := by
  refine M1.of (own := RX12) (T := fun _ r => r = u) hK (by decide +kernel) rfl (by first | (simp only [lg_lenR, lg_lenI, lg_lenL, lg_len0]; decide) | decide) (fun x hx hnl hhf hl hw hret hnm hQ h0e => ⟨?_, rfl⟩)
  subst hw
  subst hl
  have hR : Rt x h h (some (.int u)) ((some .int)) := ⟨h0e, hhf, hret, hQ⟩
  have hn : ∀ i, i < 1 → i < x.2.2.1.1.1 := fun i hi => by rw [hnl]; exact hi
  have e0 : lv_args 0 [.int x0] = [(0, .int x0)] := by simp only [lv_argsR, lv_argsI, lv_argsL, lv_args0]
  rw [e0]
  unfold mX12_turned
  refine j_iload_n (q := 1) hx (dc kX12_turned_0 0 rfl) rfl 0 rfl rfl ?_
  refine j_iconst (q := 2) (v := (2 : Int32)) hx (dc kX12_turned_0 1 rfl) (by decide) rfl ?_
  refine j_icmp_neS (q := 5) (tgt := 9) hx (dc kX12_turned_0 2 rfl) (by decide) rfl ?_ ?_
  · refine j_iconst (q := 10) (v := (1 : Int32)) hx (dc kX12_turned_0 5 rfl) (by decide) rfl ?_
    refine j_iload_n (q := 11) hx (dc kX12_turned_0 6 rfl) rfl 0 rfl rfl ?_
    refine j_isub (q := 12) hx (dc kX12_turned_0 7 rfl) rfl ?_
    exact r_iR hx hR (dc kX12_turned_0 8 rfl)
  · refine j_iconst (q := 6) (v := (2 : Int32)) hx (dc kX12_turned_0 3 rfl) (by decide) rfl ?_
    refine j_goto (q := 12) hx (dc kX12_turned_0 4 rfl) (by decide) ?_
    exact r_iR hx hR (dc kX12_turned_0 8 rfl)

set_option maxHeartbeats 4000000 in
set_option maxRecDepth 100000 in
theorem sX12_seen (l : Launch) (w : Wd) (x0 : Nat) (x1 : Int32) (x2 : Int32) (h : Hp) (u : (Int32 × Hp)) (hK : mX12_seen x0 x1 x2 h = some u) : M1 l w mi_X12_seen 2 [vR w x0, .int x1, .int x2] h u.2 (some (.int u.1)) := by
  refine M1.of (own := RX12) (T := fun _ r => r = u) hK (by decide +kernel) rfl (by first | (simp only [lg_lenR, lg_lenI, lg_lenL, lg_len0]; decide) | decide) (fun x hx hnl hhf hl hw hret hnm hQ h0e => ⟨?_, rfl⟩)
  subst hw
  subst hl
  have hR : Rt x h u.2 (some (.int u.1)) ((some .int)) := ⟨h0e, hhf, hret, hQ⟩
  have hn : ∀ i, i < 10 → i < x.2.2.1.1.1 := fun i hi => by rw [hnl]; exact hi
  have e0 : lv_args 0 [vR x.2.2.2 x0, .int x1, .int x2] = [(0, vR x.2.2.2 x0), (1, .int x1), (2, .int x2)] := by simp only [lv_argsR, lv_argsI, lv_argsL, lv_args0]
  rw [e0]
  have hb13 : ∀ (x0 : Nat) (x1 : Int32) (x2 : Int32) (x3 : Int32) (x4 : Int32) (h : Hp), J x 13 [(0, vR x.2.2.2 x0), (1, .int x1), (2, .int x2), (3, .int x3), (4, .int x4)] [] h (mX12_seen_l13 x0 x1 x2 x3 x4 h) (fun r => r = u) := by
    intro x0 x1 x2 x3 x4 h
    have hB : ∀ (x3 : Int32) (x4 : Int32) (h : Hp), J x 13 [(0, vR x.2.2.2 x0), (1, .int x1), (2, .int x2), (3, .int x3), (4, .int x4)] [] h (mX12_seen_l13f x0 x1 x2 x3 x4 h) (TL (S := (Int32 × Int32 × Hp)) x 13 (fun s => [(0, vR x.2.2.2 x0), (1, .int x1), (2, .int x2), (3, .int s.1), (4, .int s.2.1)]) [] (fun s => s.2.2) (fun r => r = u)) := by
      intro x3 x4 h
      have hb312 : ∀ (x0 : Nat) (x1 : Int32) (x2 : Int32) (x3 : Int32) (x4 : Int32) (h : Hp), J x 312 [(0, vR x.2.2.2 x0), (1, .int x1), (2, .int x2), (3, .int x3), (4, .int x4)] [] h (mX12_seen_b312 x0 x1 x2 x3 x4 h) (TL (S := (Int32 × Int32 × Hp)) x 13 (fun s => [(0, vR x.2.2.2 x0), (1, .int x1), (2, .int x2), (3, .int s.1), (4, .int s.2.1)]) [] (fun s => s.2.2) (fun r => r = u)) := by
        intro x0 x1 x2 x3 x4 h
        unfold mX12_seen_b312
        refine j_iinc (q := 315) (l2 := [(0, vR x.2.2.2 x0), (1, .int x1), (2, .int x2), (3, .int x3)]) hx (dc kX12_seen_2 45 rfl) 4 rfl (v := (1 : Int32)) (by decide) (hn 4 (by decide)) [0, 1, 2, 3] rfl ⟨⟨show (0 : Nat) ≠ 4 by decide, Or.inl (show (0 : Nat) + 1 ≠ 4 by decide)⟩, ⟨⟨show (1 : Nat) ≠ 4 by decide, Or.inl (show (1 : Nat) + 1 ≠ 4 by decide)⟩, ⟨⟨show (2 : Nat) ≠ 4 by decide, Or.inl (show (2 : Nat) + 1 ≠ 4 by decide)⟩, ⟨⟨show (3 : Nat) ≠ 4 by decide, Or.inr rfl⟩, trivial⟩⟩⟩⟩ rfl ?_
        refine j_goto (q := 13) hx (dc kX12_seen_2 46 rfl) (by decide) ?_
        exact j_back [1, 2, 3, 4, 0] (x3, (x4 + (1 : Int32)), h) rfl rfl
      have hb311 : ∀ (x0 : Nat) (x1 : Int32) (x2 : Int32) (x3 : Int32) (x4 : Int32) (t0 : Nat) (t1 : Int32) (t2 : Int32) (h : Hp), J x 311 [(0, vR x.2.2.2 x0), (1, .int x1), (2, .int x2), (3, .int x3), (4, .int x4)] [.int t2, .int t1, vR x.2.2.2 t0] h (mX12_seen_b311 x0 x1 x2 x3 x4 t0 t1 t2 h) (TL (S := (Int32 × Int32 × Hp)) x 13 (fun s => [(0, vR x.2.2.2 x0), (1, .int x1), (2, .int x2), (3, .int s.1), (4, .int s.2.1)]) [] (fun s => s.2.2) (fun r => r = u)) := by
        intro x0 x1 x2 x3 x4 t0 t1 t2 h
        unfold mX12_seen_b311
        refine w_stI (q := 312) hx (dc kX12_seen_2 44 rfl) rfl (fun h24 => ?_)
        exact hb312 x0 x1 x2 x3 x4 h24
      have hb244 : ∀ (x0 : Nat) (x1 : Int32) (x2 : Int32) (x3 : Int32) (x4 : Int32) (t0 : Nat) (t1 : Int32) (t2 : Int32) (h : Hp), J x 244 [(0, vR x.2.2.2 x0), (1, .int x1), (2, .int x2), (3, .int x3), (4, .int x4)] [.int t2, .int t1, vR x.2.2.2 t0] h (mX12_seen_b244 x0 x1 x2 x3 x4 t0 t1 t2 h) (TL (S := (Int32 × Int32 × Hp)) x 13 (fun s => [(0, vR x.2.2.2 x0), (1, .int x1), (2, .int x2), (3, .int s.1), (4, .int s.2.1)]) [] (fun s => s.2.2) (fun r => r = u)) := by
        intro x0 x1 x2 x3 x4 t0 t1 t2 h
        unfold mX12_seen_b244
        refine w_stI (q := 245) hx (dc kX12_seen_2 10 rfl) rfl (fun h28 => ?_)
        refine j_iinc (q := 248) (l2 := [(0, vR x.2.2.2 x0), (1, .int x1), (2, .int x2), (4, .int x4)]) hx (dc kX12_seen_2 11 rfl) 3 rfl (v := (1 : Int32)) (by decide) (hn 3 (by decide)) [0, 1, 2, 4] rfl ⟨⟨show (0 : Nat) ≠ 3 by decide, Or.inl (show (0 : Nat) + 1 ≠ 3 by decide)⟩, ⟨⟨show (1 : Nat) ≠ 3 by decide, Or.inl (show (1 : Nat) + 1 ≠ 3 by decide)⟩, ⟨⟨show (2 : Nat) ≠ 3 by decide, Or.inr rfl⟩, ⟨⟨show (4 : Nat) ≠ 3 by decide, Or.inl (show (4 : Nat) + 1 ≠ 3 by decide)⟩, trivial⟩⟩⟩⟩ rfl ?_
        refine j_goto (q := 312) hx (dc kX12_seen_2 12 rfl) (by decide) ?_
        exact j_sub [1, 2, 3, 0, 4] rfl (hb312 x0 x1 x2 (x3 + (1 : Int32)) x4 h28)
      have hb148 : ∀ (x0 : Nat) (x1 : Int32) (x2 : Int32) (x3 : Int32) (x4 : Int32) (x6 : Int32) (x7 : Int32) (x8 : Int32) (x9 : Int32) (h : Hp), J x 148 [(0, vR x.2.2.2 x0), (1, .int x1), (2, .int x2), (3, .int x3), (4, .int x4), (6, .int x6), (7, .int x7), (8, .int x8), (9, .int x9)] [] h (mX12_seen_l148 x0 x1 x2 x3 x4 x6 x7 x8 x9 h) (TL (S := (Int32 × Int32 × Hp)) x 13 (fun s => [(0, vR x.2.2.2 x0), (1, .int x1), (2, .int x2), (3, .int s.1), (4, .int s.2.1)]) [] (fun s => s.2.2) (fun r => r = u)) := by
        intro x0 x1 x2 x3 x4 x6 x7 x8 x9 h
        have hB : ∀ (x3 : Int32) (x7 : Int32) (x8 : Int32) (x9 : Int32), J x 148 [(0, vR x.2.2.2 x0), (1, .int x1), (2, .int x2), (3, .int x3), (4, .int x4), (6, .int x6), (7, .int x7), (8, .int x8), (9, .int x9)] [] h (mX12_seen_l148f x0 x1 x2 x4 x6 h x3 x7 x8 x9) (TL (S := (Int32 × Int32 × Int32 × Int32)) x 148 (fun s => [(0, vR x.2.2.2 x0), (1, .int x1), (2, .int x2), (3, .int s.1), (4, .int x4), (6, .int x6), (7, .int s.2.1), (8, .int s.2.2.1), (9, .int s.2.2.2)]) [] (fun s => h) (TL (S := (Int32 × Int32 × Hp)) x 13 (fun s => [(0, vR x.2.2.2 x0), (1, .int x1), (2, .int x2), (3, .int s.1), (4, .int s.2.1)]) [] (fun s => s.2.2) (fun r => r = u))) := by
          intro x3 x7 x8 x9
          have hb198 : ∀ (x0 : Nat) (x1 : Int32) (x2 : Int32) (x3 : Int32) (x4 : Int32) (x6 : Int32) (x7 : Int32) (x9 : Int32) (t0 : Int32) (t1 : Int32) (h : Hp), J x 198 [(0, vR x.2.2.2 x0), (1, .int x1), (2, .int x2), (3, .int x3), (4, .int x4), (6, .int x6), (7, .int x7), (9, .int x9)] [.int t1, .int t0] h (mX12_seen_b198 x0 x1 x2 x3 x4 x6 x7 x9 t0 t1 h) (TL (S := (Int32 × Int32 × Int32 × Int32)) x 148 (fun s => [(0, vR x.2.2.2 x0), (1, .int x1), (2, .int x2), (3, .int s.1), (4, .int x4), (6, .int x6), (7, .int s.2.1), (8, .int s.2.2.1), (9, .int s.2.2.2)]) [] (fun s => h) (TL (S := (Int32 × Int32 × Hp)) x 13 (fun s => [(0, vR x.2.2.2 x0), (1, .int x1), (2, .int x2), (3, .int s.1), (4, .int s.2.1)]) [] (fun s => s.2.2) (fun r => r = u))) := by
            intro x0 x1 x2 x3 x4 x6 x7 x9 t0 t1 h
            unfold mX12_seen_b198
            refine j_iadd (q := 199) hx (dc kX12_seen_1 50 rfl) rfl ?_
            refine j_istore (q := 201) (i := 8) (l2 := [(0, vR x.2.2.2 x0), (1, .int x1), (2, .int x2), (3, .int x3), (4, .int x4), (6, .int x6), (7, .int x7), (9, .int x9)]) hx (dc kX12_seen_1 51 rfl) (hn 8 (by decide)) [0, 1, 2, 3, 4, 5, 6, 7] rfl ⟨⟨show (0 : Nat) ≠ 8 by decide, Or.inl (show (0 : Nat) + 1 ≠ 8 by decide)⟩, ⟨⟨show (1 : Nat) ≠ 8 by decide, Or.inl (show (1 : Nat) + 1 ≠ 8 by decide)⟩, ⟨⟨show (2 : Nat) ≠ 8 by decide, Or.inl (show (2 : Nat) + 1 ≠ 8 by decide)⟩, ⟨⟨show (3 : Nat) ≠ 8 by decide, Or.inl (show (3 : Nat) + 1 ≠ 8 by decide)⟩, ⟨⟨show (4 : Nat) ≠ 8 by decide, Or.inl (show (4 : Nat) + 1 ≠ 8 by decide)⟩, ⟨⟨show (6 : Nat) ≠ 8 by decide, Or.inl (show (6 : Nat) + 1 ≠ 8 by decide)⟩, ⟨⟨show (7 : Nat) ≠ 8 by decide, Or.inr rfl⟩, ⟨⟨show (9 : Nat) ≠ 8 by decide, Or.inl (show (9 : Nat) + 1 ≠ 8 by decide)⟩, trivial⟩⟩⟩⟩⟩⟩⟩⟩ rfl ?_
            refine j_iinc (q := 204) (l2 := [(8, .int (t0 + t1)), (0, vR x.2.2.2 x0), (1, .int x1), (2, .int x2), (3, .int x3), (4, .int x4), (6, .int x6), (7, .int x7)]) hx (dc kX12_seen_1 52 rfl) 8 rfl (v := (1 : Int32)) (by decide) (hn 9 (by decide)) [0, 1, 2, 3, 4, 5, 6, 7] rfl ⟨⟨show (8 : Nat) ≠ 9 by decide, Or.inr rfl⟩, ⟨⟨show (0 : Nat) ≠ 9 by decide, Or.inl (show (0 : Nat) + 1 ≠ 9 by decide)⟩, ⟨⟨show (1 : Nat) ≠ 9 by decide, Or.inl (show (1 : Nat) + 1 ≠ 9 by decide)⟩, ⟨⟨show (2 : Nat) ≠ 9 by decide, Or.inl (show (2 : Nat) + 1 ≠ 9 by decide)⟩, ⟨⟨show (3 : Nat) ≠ 9 by decide, Or.inl (show (3 : Nat) + 1 ≠ 9 by decide)⟩, ⟨⟨show (4 : Nat) ≠ 9 by decide, Or.inl (show (4 : Nat) + 1 ≠ 9 by decide)⟩, ⟨⟨show (6 : Nat) ≠ 9 by decide, Or.inl (show (6 : Nat) + 1 ≠ 9 by decide)⟩, ⟨⟨show (7 : Nat) ≠ 9 by decide, Or.inl (show (7 : Nat) + 1 ≠ 9 by decide)⟩, trivial⟩⟩⟩⟩⟩⟩⟩⟩ rfl ?_
            refine j_goto (q := 148) hx (dc kX12_seen_1 53 rfl) (by decide) ?_
            exact j_back [2, 3, 4, 5, 6, 7, 8, 1, 0] (x3, x7, (t0 + t1), (x9 + (1 : Int32))) rfl rfl
          have hb178 : ∀ (x0 : Nat) (x1 : Int32) (x2 : Int32) (x3 : Int32) (x4 : Int32) (x6 : Int32) (x8 : Int32) (x9 : Int32) (t0 : Int32) (t1 : Int32) (h : Hp), J x 178 [(0, vR x.2.2.2 x0), (1, .int x1), (2, .int x2), (3, .int x3), (4, .int x4), (6, .int x6), (8, .int x8), (9, .int x9)] [.int t1, .int t0] h (mX12_seen_b178 x0 x1 x2 x3 x4 x6 x8 x9 t0 t1 h) (TL (S := (Int32 × Int32 × Int32 × Int32)) x 148 (fun s => [(0, vR x.2.2.2 x0), (1, .int x1), (2, .int x2), (3, .int s.1), (4, .int x4), (6, .int x6), (7, .int s.2.1), (8, .int s.2.2.1), (9, .int s.2.2.2)]) [] (fun s => h) (TL (S := (Int32 × Int32 × Hp)) x 13 (fun s => [(0, vR x.2.2.2 x0), (1, .int x1), (2, .int x2), (3, .int s.1), (4, .int s.2.1)]) [] (fun s => s.2.2) (fun r => r = u))) := by
            intro x0 x1 x2 x3 x4 x6 x8 x9 t0 t1 h
            unfold mX12_seen_b178
            refine j_iadd (q := 179) hx (dc kX12_seen_1 38 rfl) rfl ?_
            refine j_istore (q := 181) (i := 7) (l2 := [(0, vR x.2.2.2 x0), (1, .int x1), (2, .int x2), (3, .int x3), (4, .int x4), (6, .int x6), (8, .int x8), (9, .int x9)]) hx (dc kX12_seen_1 39 rfl) (hn 7 (by decide)) [0, 1, 2, 3, 4, 5, 6, 7] rfl ⟨⟨show (0 : Nat) ≠ 7 by decide, Or.inl (show (0 : Nat) + 1 ≠ 7 by decide)⟩, ⟨⟨show (1 : Nat) ≠ 7 by decide, Or.inl (show (1 : Nat) + 1 ≠ 7 by decide)⟩, ⟨⟨show (2 : Nat) ≠ 7 by decide, Or.inl (show (2 : Nat) + 1 ≠ 7 by decide)⟩, ⟨⟨show (3 : Nat) ≠ 7 by decide, Or.inl (show (3 : Nat) + 1 ≠ 7 by decide)⟩, ⟨⟨show (4 : Nat) ≠ 7 by decide, Or.inl (show (4 : Nat) + 1 ≠ 7 by decide)⟩, ⟨⟨show (6 : Nat) ≠ 7 by decide, Or.inr rfl⟩, ⟨⟨show (8 : Nat) ≠ 7 by decide, Or.inl (show (8 : Nat) + 1 ≠ 7 by decide)⟩, ⟨⟨show (9 : Nat) ≠ 7 by decide, Or.inl (show (9 : Nat) + 1 ≠ 7 by decide)⟩, trivial⟩⟩⟩⟩⟩⟩⟩⟩ rfl ?_
            refine j_iload (q := 183) hx (dc kX12_seen_1 40 rfl) 7 rfl rfl ?_
            refine j_aload_n (q := 184) hx (dc kX12_seen_1 41 rfl) rfl 1 rfl rfl ?_
            refine w_gR (q := 187) hx (dc kX12_seen_1 42 rfl) ff_X12_23 lk_X12_43 rfl (fun v31 => ?_)
            refine j_iload_n (q := 188) hx (dc kX12_seen_1 43 rfl) rfl 4 rfl rfl ?_
            refine j_ldI (q := 189) hx (dc kX12_seen_1 44 rfl) rfl (fun v32 => ?_)
            refine j_iconst (q := 190) (v := (2 : Int32)) hx (dc kX12_seen_1 45 rfl) (by decide) rfl ?_
            refine j_icmp_neS (q := 193) (tgt := 197) hx (dc kX12_seen_1 46 rfl) (by decide) rfl ?_ ?_
            · refine j_iconst (q := 198) (v := (0 : Int32)) hx (dc kX12_seen_1 49 rfl) (by decide) rfl ?_
              exact j_sub [1, 2, 3, 4, 5, 6, 0, 8] rfl (hb198 x0 x1 x2 x3 x4 x6 (t0 + t1) x9 x8 (0 : Int32) h)
            · refine j_iconst (q := 194) (v := (1 : Int32)) hx (dc kX12_seen_1 47 rfl) (by decide) rfl ?_
              refine j_goto (q := 198) hx (dc kX12_seen_1 48 rfl) (by decide) ?_
              exact j_sub [1, 2, 3, 4, 5, 6, 0, 8] rfl (hb198 x0 x1 x2 x3 x4 x6 (t0 + t1) x9 x8 (1 : Int32) h)
          unfold mX12_seen_l148f
          refine j_iload (q := 150) hx (dc kX12_seen_1 22 rfl) 8 rfl rfl ?_
          refine j_iload (q := 152) hx (dc kX12_seen_1 23 rfl) 5 rfl rfl ?_
          refine j_bipush (q := 154) (v := (10 : Int32)) hx (dc kX12_seen_1 24 rfl) (by decide) rfl ?_
          refine j_irem (q := 155) hx (dc kX12_seen_1 25 rfl) rfl ?_
          refine j_icmp_geS (q := 158) (tgt := 207) hx (dc kX12_seen_1 26 rfl) (by decide) rfl ?_ ?_
          · refine j_exit ?_
            refine j_aload_n (q := 208) hx (dc kX12_seen_1 54 rfl) rfl 0 rfl rfl ?_
            refine w_gR (q := 211) hx (dc kX12_seen_1 55 rfl) ff_X12_23 lk_X12_43 rfl (fun v27 => ?_)
            refine j_iload_n (q := 212) hx (dc kX12_seen_1 56 rfl) rfl 3 rfl rfl ?_
            refine j_iload (q := 214) hx (dc kX12_seen_1 57 rfl) 6 rfl rfl ?_
            refine j_iload (q := 216) hx (dc kX12_seen_1 58 rfl) 5 rfl rfl ?_
            refine j_bipush (q := 218) (v := (10 : Int32)) hx (dc kX12_seen_1 59 rfl) (by decide) rfl ?_
            refine j_idiv (q := 219) hx (dc kX12_seen_1 60 rfl) rfl ?_
            refine j_icmp_lt (q := 222) (tgt := 226) hx (dc kX12_seen_1 61 rfl) (by decide) Iff.rfl rfl ?_ ?_
            · refine j_iload (q := 228) hx (dc kX12_seen_2 0 rfl) 6 rfl rfl ?_
              refine j_iload (q := 230) hx (dc kX12_seen_2 1 rfl) 7 rfl rfl ?_
              refine j_iadd (q := 231) hx (dc kX12_seen_2 2 rfl) rfl ?_
              refine j_iload (q := 233) hx (dc kX12_seen_2 3 rfl) 5 rfl rfl ?_
              refine j_bipush (q := 235) (v := (10 : Int32)) hx (dc kX12_seen_2 4 rfl) (by decide) rfl ?_
              refine j_idiv (q := 236) hx (dc kX12_seen_2 5 rfl) rfl ?_
              refine j_icmp_geS (q := 239) (tgt := 243) hx (dc kX12_seen_2 6 rfl) (by decide) rfl ?_ ?_
              · refine j_iconst (q := 244) (v := (2 : Int32)) hx (dc kX12_seen_2 9 rfl) (by decide) rfl ?_
                exact j_sub [0, 1, 2, 3, 4] rfl (hb244 x0 x1 x2 x3 x4 v27 x3 (2 : Int32) h)
              · refine j_iconst (q := 240) (v := (0 : Int32)) hx (dc kX12_seen_2 7 rfl) (by decide) rfl ?_
                refine j_goto (q := 244) hx (dc kX12_seen_2 8 rfl) (by decide) ?_
                exact j_sub [0, 1, 2, 3, 4] rfl (hb244 x0 x1 x2 x3 x4 v27 x3 (0 : Int32) h)
            · refine j_iconst (q := 223) (v := (1 : Int32)) hx (dc kX12_seen_1 62 rfl) (by decide) rfl ?_
              refine j_goto (q := 244) hx (dc kX12_seen_1 63 rfl) (by decide) ?_
              exact j_sub [0, 1, 2, 3, 4] rfl (hb244 x0 x1 x2 x3 x4 v27 x3 (1 : Int32) h)
          · refine j_iinc (q := 161) (l2 := [(0, vR x.2.2.2 x0), (1, .int x1), (2, .int x2), (4, .int x4), (6, .int x6), (7, .int x7), (8, .int x8), (9, .int x9)]) hx (dc kX12_seen_1 27 rfl) 3 rfl (v := (-1 : Int32)) (by decide) (hn 3 (by decide)) [0, 1, 2, 4, 5, 6, 7, 8] rfl ⟨⟨show (0 : Nat) ≠ 3 by decide, Or.inl (show (0 : Nat) + 1 ≠ 3 by decide)⟩, ⟨⟨show (1 : Nat) ≠ 3 by decide, Or.inl (show (1 : Nat) + 1 ≠ 3 by decide)⟩, ⟨⟨show (2 : Nat) ≠ 3 by decide, Or.inr rfl⟩, ⟨⟨show (4 : Nat) ≠ 3 by decide, Or.inl (show (4 : Nat) + 1 ≠ 3 by decide)⟩, ⟨⟨show (6 : Nat) ≠ 3 by decide, Or.inl (show (6 : Nat) + 1 ≠ 3 by decide)⟩, ⟨⟨show (7 : Nat) ≠ 3 by decide, Or.inl (show (7 : Nat) + 1 ≠ 3 by decide)⟩, ⟨⟨show (8 : Nat) ≠ 3 by decide, Or.inl (show (8 : Nat) + 1 ≠ 3 by decide)⟩, ⟨⟨show (9 : Nat) ≠ 3 by decide, Or.inl (show (9 : Nat) + 1 ≠ 3 by decide)⟩, trivial⟩⟩⟩⟩⟩⟩⟩⟩ rfl ?_
            refine j_iload (q := 163) hx (dc kX12_seen_1 28 rfl) 6 rfl rfl ?_
            refine j_aload_n (q := 164) hx (dc kX12_seen_1 29 rfl) rfl 1 rfl rfl ?_
            refine w_gR (q := 167) hx (dc kX12_seen_1 30 rfl) ff_X12_23 lk_X12_43 rfl (fun v29 => ?_)
            refine j_iload_n (q := 168) hx (dc kX12_seen_1 31 rfl) rfl 0 rfl rfl ?_
            refine j_ldI (q := 169) hx (dc kX12_seen_1 32 rfl) rfl (fun v30 => ?_)
            refine j_iconst (q := 170) (v := (1 : Int32)) hx (dc kX12_seen_1 33 rfl) (by decide) rfl ?_
            refine j_icmp_neS (q := 173) (tgt := 177) hx (dc kX12_seen_1 34 rfl) (by decide) rfl ?_ ?_
            · refine j_iconst (q := 178) (v := (0 : Int32)) hx (dc kX12_seen_1 37 rfl) (by decide) rfl ?_
              exact j_sub [1, 2, 3, 0, 4, 5, 7, 8] rfl (hb178 x0 x1 x2 (x3 + (-1 : Int32)) x4 x6 x8 x9 x7 (0 : Int32) h)
            · refine j_iconst (q := 174) (v := (1 : Int32)) hx (dc kX12_seen_1 35 rfl) (by decide) rfl ?_
              refine j_goto (q := 178) hx (dc kX12_seen_1 36 rfl) (by decide) ?_
              exact j_sub [1, 2, 3, 0, 4, 5, 7, 8] rfl (hb178 x0 x1 x2 (x3 + (-1 : Int32)) x4 x6 x8 x9 x7 (1 : Int32) h)
        exact j_loop (S := (Int32 × Int32 × Int32 × Int32)) (lvf := fun s => [(0, vR x.2.2.2 x0), (1, .int x1), (2, .int x2), (3, .int s.1), (4, .int x4), (6, .int x6), (7, .int s.2.1), (8, .int s.2.2.1), (9, .int s.2.2.2)]) (hpf := fun s => h) (f := (fun s : (Int32 × Int32 × Int32 × Int32) => mX12_seen_l148f x0 x1 x2 x4 x6 h s.1 s.2.1 s.2.2.1 s.2.2.2)) (fun s => hB s.1 s.2.1 s.2.2.1 s.2.2.2) (x3, x7, x8, x9)
      have hb98 : ∀ (x0 : Nat) (x1 : Int32) (x2 : Int32) (x3 : Int32) (x4 : Int32) (t0 : Nat) (t1 : Int32) (t2 : Int32) (h : Hp), J x 98 [(0, vR x.2.2.2 x0), (1, .int x1), (2, .int x2), (3, .int x3), (4, .int x4)] [.int t2, .int t1, vR x.2.2.2 t0] h (mX12_seen_b98 x0 x1 x2 x3 x4 t0 t1 t2 h) (TL (S := (Int32 × Int32 × Hp)) x 13 (fun s => [(0, vR x.2.2.2 x0), (1, .int x1), (2, .int x2), (3, .int s.1), (4, .int s.2.1)]) [] (fun s => s.2.2) (fun r => r = u)) := by
        intro x0 x1 x2 x3 x4 t0 t1 t2 h
        unfold mX12_seen_b98
        refine w_stI (q := 99) hx (dc kX12_seen_0 57 rfl) rfl (fun h46 => ?_)
        refine j_iinc (q := 102) (l2 := [(0, vR x.2.2.2 x0), (1, .int x1), (2, .int x2), (4, .int x4)]) hx (dc kX12_seen_0 58 rfl) 3 rfl (v := (1 : Int32)) (by decide) (hn 3 (by decide)) [0, 1, 2, 4] rfl ⟨⟨show (0 : Nat) ≠ 3 by decide, Or.inl (show (0 : Nat) + 1 ≠ 3 by decide)⟩, ⟨⟨show (1 : Nat) ≠ 3 by decide, Or.inl (show (1 : Nat) + 1 ≠ 3 by decide)⟩, ⟨⟨show (2 : Nat) ≠ 3 by decide, Or.inr rfl⟩, ⟨⟨show (4 : Nat) ≠ 3 by decide, Or.inl (show (4 : Nat) + 1 ≠ 3 by decide)⟩, trivial⟩⟩⟩⟩ rfl ?_
        refine j_goto (q := 312) hx (dc kX12_seen_0 59 rfl) (by decide) ?_
        exact j_sub [1, 2, 3, 0, 4] rfl (hb312 x0 x1 x2 (x3 + (1 : Int32)) x4 h46)
      unfold mX12_seen_l13f
      refine j_iload (q := 15) hx (dc kX12_seen_0 9 rfl) 4 rfl rfl ?_
      refine j_aload_n (q := 16) hx (dc kX12_seen_0 10 rfl) rfl 0 rfl rfl ?_
      refine w_gR (q := 19) hx (dc kX12_seen_0 11 rfl) ff_X12_0 lk_X12_7 rfl (fun v3 => ?_)
      refine j_bipush (q := 21) (v := (117 : Int32)) hx (dc kX12_seen_0 12 rfl) (by decide) rfl ?_
      refine j_iload_n (q := 22) hx (dc kX12_seen_0 13 rfl) rfl 1 rfl rfl ?_
      refine j_iadd (q := 23) hx (dc kX12_seen_0 14 rfl) rfl ?_
      refine j_ldI (q := 24) hx (dc kX12_seen_0 15 rfl) rfl (fun v4 => ?_)
      refine j_icmp_geS (q := 27) (tgt := 318) hx (dc kX12_seen_0 16 rfl) (by decide) rfl ?_ ?_
      · refine j_exit ?_
        refine j_aload_n (q := 319) hx (dc kX12_seen_2 47 rfl) rfl 0 rfl rfl ?_
        refine w_gR (q := 322) hx (dc kX12_seen_2 48 rfl) ff_X12_23 lk_X12_43 rfl (fun v5 => ?_)
        refine j_iconst (q := 323) (v := (0 : Int32)) hx (dc kX12_seen_2 49 rfl) (by decide) rfl ?_
        refine j_ldI (q := 324) hx (dc kX12_seen_2 50 rfl) rfl (fun v6 => ?_)
        exact r_iW hx hR (dc kX12_seen_2 51 rfl)
      · refine j_aload_n (q := 28) hx (dc kX12_seen_0 17 rfl) rfl 0 rfl rfl ?_
        refine w_gR (q := 31) hx (dc kX12_seen_0 18 rfl) ff_X12_0 lk_X12_7 rfl (fun v7 => ?_)
        refine j_sipush (q := 34) (v := (150 : Int32)) hx (dc kX12_seen_0 19 rfl) (by decide) rfl ?_
        refine j_iload (q := 36) hx (dc kX12_seen_0 20 rfl) 4 rfl rfl ?_
        refine j_iadd (q := 37) hx (dc kX12_seen_0 21 rfl) rfl ?_
        refine j_ldI (q := 38) hx (dc kX12_seen_0 22 rfl) rfl (fun v8 => ?_)
        refine j_bipush (q := 40) (v := (100 : Int32)) hx (dc kX12_seen_0 23 rfl) (by decide) rfl ?_
        refine j_idiv (q := 41) hx (dc kX12_seen_0 24 rfl) rfl ?_
        refine j_istore (q := 43) (i := 5) (l2 := [(0, vR x.2.2.2 x0), (1, .int x1), (2, .int x2), (3, .int x3), (4, .int x4)]) hx (dc kX12_seen_0 25 rfl) (hn 5 (by decide)) [0, 1, 2, 3, 4] rfl ⟨⟨show (0 : Nat) ≠ 5 by decide, Or.inl (show (0 : Nat) + 1 ≠ 5 by decide)⟩, ⟨⟨show (1 : Nat) ≠ 5 by decide, Or.inl (show (1 : Nat) + 1 ≠ 5 by decide)⟩, ⟨⟨show (2 : Nat) ≠ 5 by decide, Or.inl (show (2 : Nat) + 1 ≠ 5 by decide)⟩, ⟨⟨show (3 : Nat) ≠ 5 by decide, Or.inl (show (3 : Nat) + 1 ≠ 5 by decide)⟩, ⟨⟨show (4 : Nat) ≠ 5 by decide, Or.inr rfl⟩, trivial⟩⟩⟩⟩⟩ rfl ?_
        refine j_aload_n (q := 44) hx (dc kX12_seen_0 26 rfl) rfl 1 rfl rfl ?_
        refine w_gR (q := 47) hx (dc kX12_seen_0 27 rfl) ff_X12_0 lk_X12_7 rfl (fun v9 => ?_)
        refine j_sipush (q := 50) (v := (150 : Int32)) hx (dc kX12_seen_0 28 rfl) (by decide) rfl ?_
        refine j_iload (q := 52) hx (dc kX12_seen_0 29 rfl) 5 rfl rfl ?_
        refine j_iadd (q := 53) hx (dc kX12_seen_0 30 rfl) rfl ?_
        refine j_ldI (q := 54) hx (dc kX12_seen_0 31 rfl) rfl (fun v10 => ?_)
        refine j_bipush (q := 56) (v := (100 : Int32)) hx (dc kX12_seen_0 32 rfl) (by decide) rfl ?_
        refine j_irem (q := 57) hx (dc kX12_seen_0 33 rfl) rfl ?_
        refine j_istore (q := 59) (i := 6) (l2 := [(5, .int (v8 / (100 : Int32))), (0, vR x.2.2.2 x0), (1, .int x1), (2, .int x2), (3, .int x3), (4, .int x4)]) hx (dc kX12_seen_0 34 rfl) (hn 6 (by decide)) [0, 1, 2, 3, 4, 5] rfl ⟨⟨show (5 : Nat) ≠ 6 by decide, Or.inr rfl⟩, ⟨⟨show (0 : Nat) ≠ 6 by decide, Or.inl (show (0 : Nat) + 1 ≠ 6 by decide)⟩, ⟨⟨show (1 : Nat) ≠ 6 by decide, Or.inl (show (1 : Nat) + 1 ≠ 6 by decide)⟩, ⟨⟨show (2 : Nat) ≠ 6 by decide, Or.inl (show (2 : Nat) + 1 ≠ 6 by decide)⟩, ⟨⟨show (3 : Nat) ≠ 6 by decide, Or.inl (show (3 : Nat) + 1 ≠ 6 by decide)⟩, ⟨⟨show (4 : Nat) ≠ 6 by decide, Or.inl (show (4 : Nat) + 1 ≠ 6 by decide)⟩, trivial⟩⟩⟩⟩⟩⟩ rfl ?_
        refine j_iload (q := 61) hx (dc kX12_seen_0 35 rfl) 1 rfl rfl ?_
        refine j_if_neS (q := 64) (tgt := 105) hx (dc kX12_seen_0 36 rfl) (by decide) rfl ?_ ?_
        · refine j_iload (q := 107) hx (dc kX12_seen_0 60 rfl) 1 rfl rfl ?_
          refine j_iconst (q := 108) (v := (1 : Int32)) hx (dc kX12_seen_0 61 rfl) (by decide) rfl ?_
          refine j_icmp_neS (q := 111) (tgt := 133) hx (dc kX12_seen_0 62 rfl) (by decide) rfl ?_ ?_
          · refine j_iload (q := 135) hx (dc kX12_seen_1 13 rfl) 1 rfl rfl ?_
            refine j_iconst (q := 136) (v := (4 : Int32)) hx (dc kX12_seen_1 14 rfl) (by decide) rfl ?_
            refine j_icmp_neS (q := 139) (tgt := 251) hx (dc kX12_seen_1 15 rfl) (by decide) rfl ?_ ?_
            · refine j_iinc (q := 254) (l2 := [(5, .int (v8 / (100 : Int32))), (0, vR x.2.2.2 x0), (1, .int x1), (2, .int x2), (4, .int x4)]) hx (dc kX12_seen_2 13 rfl) 5 rfl (v := (-1 : Int32)) (by decide) (hn 3 (by decide)) [1, 2, 3, 4, 6] rfl ⟨⟨show (5 : Nat) ≠ 3 by decide, Or.inl (show (5 : Nat) + 1 ≠ 3 by decide)⟩, ⟨⟨show (0 : Nat) ≠ 3 by decide, Or.inl (show (0 : Nat) + 1 ≠ 3 by decide)⟩, ⟨⟨show (1 : Nat) ≠ 3 by decide, Or.inl (show (1 : Nat) + 1 ≠ 3 by decide)⟩, ⟨⟨show (2 : Nat) ≠ 3 by decide, Or.inr rfl⟩, ⟨⟨show (4 : Nat) ≠ 3 by decide, Or.inl (show (4 : Nat) + 1 ≠ 3 by decide)⟩, trivial⟩⟩⟩⟩⟩ rfl ?_
              refine j_aload_n (q := 255) hx (dc kX12_seen_2 14 rfl) rfl 2 rfl rfl ?_
              refine w_gR (q := 258) hx (dc kX12_seen_2 15 rfl) ff_X12_23 lk_X12_43 rfl (fun v11 => ?_)
              refine j_iload_n (q := 259) hx (dc kX12_seen_2 16 rfl) rfl 0 rfl rfl ?_
              refine j_iconst (q := 260) (v := (1 : Int32)) hx (dc kX12_seen_2 17 rfl) (by decide) rfl ?_
              refine j_isub (q := 261) hx (dc kX12_seen_2 18 rfl) rfl ?_
              refine j_ldI (q := 262) hx (dc kX12_seen_2 19 rfl) rfl (fun v12 => ?_)
              refine j_istore (q := 264) (i := 7) (l2 := [(3, .int (x3 + (-1 : Int32))), (5, .int (v8 / (100 : Int32))), (0, vR x.2.2.2 x0), (1, .int x1), (2, .int x2), (4, .int x4)]) hx (dc kX12_seen_2 20 rfl) (hn 7 (by decide)) [0, 1, 2, 3, 4, 5] rfl ⟨⟨show (3 : Nat) ≠ 7 by decide, Or.inl (show (3 : Nat) + 1 ≠ 7 by decide)⟩, ⟨⟨show (5 : Nat) ≠ 7 by decide, Or.inl (show (5 : Nat) + 1 ≠ 7 by decide)⟩, ⟨⟨show (0 : Nat) ≠ 7 by decide, Or.inl (show (0 : Nat) + 1 ≠ 7 by decide)⟩, ⟨⟨show (1 : Nat) ≠ 7 by decide, Or.inl (show (1 : Nat) + 1 ≠ 7 by decide)⟩, ⟨⟨show (2 : Nat) ≠ 7 by decide, Or.inl (show (2 : Nat) + 1 ≠ 7 by decide)⟩, ⟨⟨show (4 : Nat) ≠ 7 by decide, Or.inl (show (4 : Nat) + 1 ≠ 7 by decide)⟩, trivial⟩⟩⟩⟩⟩⟩ rfl ?_
              refine j_aload_n (q := 265) hx (dc kX12_seen_2 21 rfl) rfl 3 rfl rfl ?_
              refine w_gR (q := 268) hx (dc kX12_seen_2 22 rfl) ff_X12_23 lk_X12_43 rfl (fun v13 => ?_)
              refine j_iload_n (q := 269) hx (dc kX12_seen_2 23 rfl) rfl 1 rfl rfl ?_
              refine j_ldI (q := 270) hx (dc kX12_seen_2 24 rfl) rfl (fun v14 => ?_)
              refine j_istore (q := 272) (i := 8) (l2 := [(7, .int v12), (3, .int (x3 + (-1 : Int32))), (5, .int (v8 / (100 : Int32))), (0, vR x.2.2.2 x0), (1, .int x1), (2, .int x2), (4, .int x4)]) hx (dc kX12_seen_2 25 rfl) (hn 8 (by decide)) [0, 1, 2, 3, 4, 5, 6] rfl ⟨⟨show (7 : Nat) ≠ 8 by decide, Or.inr rfl⟩, ⟨⟨show (3 : Nat) ≠ 8 by decide, Or.inl (show (3 : Nat) + 1 ≠ 8 by decide)⟩, ⟨⟨show (5 : Nat) ≠ 8 by decide, Or.inl (show (5 : Nat) + 1 ≠ 8 by decide)⟩, ⟨⟨show (0 : Nat) ≠ 8 by decide, Or.inl (show (0 : Nat) + 1 ≠ 8 by decide)⟩, ⟨⟨show (1 : Nat) ≠ 8 by decide, Or.inl (show (1 : Nat) + 1 ≠ 8 by decide)⟩, ⟨⟨show (2 : Nat) ≠ 8 by decide, Or.inl (show (2 : Nat) + 1 ≠ 8 by decide)⟩, ⟨⟨show (4 : Nat) ≠ 8 by decide, Or.inl (show (4 : Nat) + 1 ≠ 8 by decide)⟩, trivial⟩⟩⟩⟩⟩⟩⟩ rfl ?_
              refine j_aload_n (q := 273) hx (dc kX12_seen_2 26 rfl) rfl 4 rfl rfl ?_
              refine w_gR (q := 276) hx (dc kX12_seen_2 27 rfl) ff_X12_23 lk_X12_43 rfl (fun v15 => ?_)
              refine j_iload_n (q := 277) hx (dc kX12_seen_2 28 rfl) rfl 2 rfl rfl ?_
              refine j_iconst (q := 278) (v := (1 : Int32)) hx (dc kX12_seen_2 29 rfl) (by decide) rfl ?_
              refine j_isub (q := 279) hx (dc kX12_seen_2 30 rfl) rfl ?_
              refine j_iload (q := 281) hx (dc kX12_seen_2 31 rfl) 3 rfl rfl ?_
              refine j_iconst (q := 282) (v := (2 : Int32)) hx (dc kX12_seen_2 32 rfl) (by decide) rfl ?_
              refine j_icmp_neS (q := 285) (tgt := 295) hx (dc kX12_seen_2 33 rfl) (by decide) rfl ?_ ?_
              · refine j_iload (q := 297) hx (dc kX12_seen_2 38 rfl) 1 rfl rfl ?_
                refine w_cSIR (q := 300) (As := [.int v12]) (st := [.int ((x3 + (-1 : Int32)) - (1 : Int32)), vR x.2.2.2 v15]) hx (dc kX12_seen_2 39 rfl) (cI _ my_X12_turned lm_X12_386 (by decide)) st_X12_turned rfl (fun u hu => sX12_turned _ _ _ _ _ hu) (sum_le (sum_I (sum_R sum_nil)) (by decide)) rfl (fun v16 => ?_)
                refine j_iload (q := 302) hx (dc kX12_seen_2 40 rfl) 0 rfl rfl ?_
                refine w_cSIR (q := 305) (As := [.int v14]) (st := [.int v16, .int ((x3 + (-1 : Int32)) - (1 : Int32)), vR x.2.2.2 v15]) hx (dc kX12_seen_2 41 rfl) (cI _ my_X12_turned lm_X12_386 (by decide)) st_X12_turned rfl (fun u hu => sX12_turned _ _ _ _ _ hu) (sum_le (sum_I (sum_I (sum_R sum_nil))) (by decide)) rfl (fun v18 => ?_)
                refine w_cSIR (q := 308) (As := [.int v16, .int v18]) (st := [.int ((x3 + (-1 : Int32)) - (1 : Int32)), vR x.2.2.2 v15]) hx (dc kX12_seen_2 42 rfl) (cI _ my_X12_andOf lm_X12_389 (by decide)) st_X12_andOf rfl (fun u hu => sX12_andOf _ _ _ _ _ _ hu) (sum_le (sum_I (sum_R sum_nil)) (by decide)) rfl (fun v20 => ?_)
                refine w_cSIR (q := 311) (As := [.int v20]) (st := [.int ((x3 + (-1 : Int32)) - (1 : Int32)), vR x.2.2.2 v15]) hx (dc kX12_seen_2 43 rfl) (cI _ my_X12_turned lm_X12_386 (by decide)) st_X12_turned rfl (fun u hu => sX12_turned _ _ _ _ _ hu) (sum_le (sum_I (sum_R sum_nil)) (by decide)) rfl (fun v22 => ?_)
                exact j_sub [4, 5, 6, 2, 7] rfl (hb311 x0 x1 x2 (x3 + (-1 : Int32)) x4 v15 ((x3 + (-1 : Int32)) - (1 : Int32)) v22 h)
              · refine j_iload (q := 287) hx (dc kX12_seen_2 34 rfl) 1 rfl rfl ?_
                refine j_iload (q := 289) hx (dc kX12_seen_2 35 rfl) 0 rfl rfl ?_
                refine w_cSIR (q := 292) (As := [.int v12, .int v14]) (st := [.int ((x3 + (-1 : Int32)) - (1 : Int32)), vR x.2.2.2 v15]) hx (dc kX12_seen_2 36 rfl) (cI _ my_X12_andOf lm_X12_389 (by decide)) st_X12_andOf rfl (fun u hu => sX12_andOf _ _ _ _ _ _ hu) (sum_le (sum_I (sum_R sum_nil)) (by decide)) rfl (fun v25 => ?_)
                refine j_goto (q := 311) hx (dc kX12_seen_2 37 rfl) (by decide) ?_
                exact j_sub [4, 5, 6, 2, 7] rfl (hb311 x0 x1 x2 (x3 + (-1 : Int32)) x4 v15 ((x3 + (-1 : Int32)) - (1 : Int32)) v25 h)
            · refine j_iconst (q := 140) (v := (0 : Int32)) hx (dc kX12_seen_1 16 rfl) (by decide) rfl ?_
              refine j_istore (q := 142) (i := 7) (l2 := [(6, .int (v10 - v10 / (100 : Int32) * (100 : Int32))), (0, vR x.2.2.2 x0), (1, .int x1), (2, .int x2), (3, .int x3), (4, .int x4)]) hx (dc kX12_seen_1 17 rfl) (hn 7 (by decide)) [0, 2, 3, 4, 5, 6] rfl ⟨⟨show (6 : Nat) ≠ 7 by decide, Or.inr rfl⟩, ⟨⟨show (0 : Nat) ≠ 7 by decide, Or.inl (show (0 : Nat) + 1 ≠ 7 by decide)⟩, ⟨⟨show (1 : Nat) ≠ 7 by decide, Or.inl (show (1 : Nat) + 1 ≠ 7 by decide)⟩, ⟨⟨show (2 : Nat) ≠ 7 by decide, Or.inl (show (2 : Nat) + 1 ≠ 7 by decide)⟩, ⟨⟨show (3 : Nat) ≠ 7 by decide, Or.inl (show (3 : Nat) + 1 ≠ 7 by decide)⟩, ⟨⟨show (4 : Nat) ≠ 7 by decide, Or.inl (show (4 : Nat) + 1 ≠ 7 by decide)⟩, trivial⟩⟩⟩⟩⟩⟩ rfl ?_
              refine j_iconst (q := 143) (v := (0 : Int32)) hx (dc kX12_seen_1 18 rfl) (by decide) rfl ?_
              refine j_istore (q := 145) (i := 8) (l2 := [(7, .int (0 : Int32)), (6, .int (v10 - v10 / (100 : Int32) * (100 : Int32))), (0, vR x.2.2.2 x0), (1, .int x1), (2, .int x2), (3, .int x3), (4, .int x4)]) hx (dc kX12_seen_1 19 rfl) (hn 8 (by decide)) [0, 1, 2, 3, 4, 5, 6] rfl ⟨⟨show (7 : Nat) ≠ 8 by decide, Or.inr rfl⟩, ⟨⟨show (6 : Nat) ≠ 8 by decide, Or.inl (show (6 : Nat) + 1 ≠ 8 by decide)⟩, ⟨⟨show (0 : Nat) ≠ 8 by decide, Or.inl (show (0 : Nat) + 1 ≠ 8 by decide)⟩, ⟨⟨show (1 : Nat) ≠ 8 by decide, Or.inl (show (1 : Nat) + 1 ≠ 8 by decide)⟩, ⟨⟨show (2 : Nat) ≠ 8 by decide, Or.inl (show (2 : Nat) + 1 ≠ 8 by decide)⟩, ⟨⟨show (3 : Nat) ≠ 8 by decide, Or.inl (show (3 : Nat) + 1 ≠ 8 by decide)⟩, ⟨⟨show (4 : Nat) ≠ 8 by decide, Or.inl (show (4 : Nat) + 1 ≠ 8 by decide)⟩, trivial⟩⟩⟩⟩⟩⟩⟩ rfl ?_
              refine j_iconst (q := 146) (v := (0 : Int32)) hx (dc kX12_seen_1 20 rfl) (by decide) rfl ?_
              refine j_istore (q := 148) (i := 9) (l2 := [(8, .int (0 : Int32)), (7, .int (0 : Int32)), (6, .int (v10 - v10 / (100 : Int32) * (100 : Int32))), (0, vR x.2.2.2 x0), (1, .int x1), (2, .int x2), (3, .int x3), (4, .int x4)]) hx (dc kX12_seen_1 21 rfl) (hn 9 (by decide)) [0, 1, 2, 3, 4, 5, 6, 7] rfl ⟨⟨show (8 : Nat) ≠ 9 by decide, Or.inr rfl⟩, ⟨⟨show (7 : Nat) ≠ 9 by decide, Or.inl (show (7 : Nat) + 1 ≠ 9 by decide)⟩, ⟨⟨show (6 : Nat) ≠ 9 by decide, Or.inl (show (6 : Nat) + 1 ≠ 9 by decide)⟩, ⟨⟨show (0 : Nat) ≠ 9 by decide, Or.inl (show (0 : Nat) + 1 ≠ 9 by decide)⟩, ⟨⟨show (1 : Nat) ≠ 9 by decide, Or.inl (show (1 : Nat) + 1 ≠ 9 by decide)⟩, ⟨⟨show (2 : Nat) ≠ 9 by decide, Or.inl (show (2 : Nat) + 1 ≠ 9 by decide)⟩, ⟨⟨show (3 : Nat) ≠ 9 by decide, Or.inl (show (3 : Nat) + 1 ≠ 9 by decide)⟩, ⟨⟨show (4 : Nat) ≠ 9 by decide, Or.inl (show (4 : Nat) + 1 ≠ 9 by decide)⟩, trivial⟩⟩⟩⟩⟩⟩⟩⟩ rfl ?_
              exact j_sub [4, 5, 6, 7, 8, 3, 2, 1, 0] rfl (hb148 x0 x1 x2 x3 x4 (v10 - v10 / (100 : Int32) * (100 : Int32)) (0 : Int32) (0 : Int32) (0 : Int32) h)
          · refine j_aload_n (q := 112) hx (dc kX12_seen_0 63 rfl) rfl 2 rfl rfl ?_
            refine w_gR (q := 115) hx (dc kX12_seen_1 0 rfl) ff_X12_23 lk_X12_43 rfl (fun v33 => ?_)
            refine j_iload_n (q := 116) hx (dc kX12_seen_1 1 rfl) rfl 5 rfl rfl ?_
            refine j_iconst (q := 117) (v := (1 : Int32)) hx (dc kX12_seen_1 2 rfl) (by decide) rfl ?_
            refine j_isub (q := 118) hx (dc kX12_seen_1 3 rfl) rfl ?_
            refine j_aload_n (q := 119) hx (dc kX12_seen_1 4 rfl) rfl 2 rfl rfl ?_
            refine w_gR (q := 122) hx (dc kX12_seen_1 5 rfl) ff_X12_23 lk_X12_43 rfl (fun v34 => ?_)
            refine j_iload_n (q := 123) hx (dc kX12_seen_1 6 rfl) rfl 5 rfl rfl ?_
            refine j_iconst (q := 124) (v := (1 : Int32)) hx (dc kX12_seen_1 7 rfl) (by decide) rfl ?_
            refine j_isub (q := 125) hx (dc kX12_seen_1 8 rfl) rfl ?_
            refine j_ldI (q := 126) hx (dc kX12_seen_1 9 rfl) rfl (fun v35 => ?_)
            refine w_cSIR (q := 129) (As := [.int v35]) (st := [.int (x3 - (1 : Int32)), vR x.2.2.2 v33]) hx (dc kX12_seen_1 10 rfl) (cI _ my_X12_turned lm_X12_386 (by decide)) st_X12_turned rfl (fun u hu => sX12_turned _ _ _ _ _ hu) (sum_le (sum_I (sum_R sum_nil)) (by decide)) rfl (fun v36 => ?_)
            refine w_stI (q := 130) hx (dc kX12_seen_1 11 rfl) rfl (fun h38 => ?_)
            refine j_goto (q := 312) hx (dc kX12_seen_1 12 rfl) (by decide) ?_
            exact j_sub [2, 3, 4, 5, 6] rfl (hb312 x0 x1 x2 x3 x4 h38)
        · refine j_aload_n (q := 65) hx (dc kX12_seen_0 37 rfl) rfl 2 rfl rfl ?_
          refine w_gR (q := 68) hx (dc kX12_seen_0 38 rfl) ff_X12_23 lk_X12_43 rfl (fun v39 => ?_)
          refine j_iload_n (q := 69) hx (dc kX12_seen_0 39 rfl) rfl 5 rfl rfl ?_
          refine j_aload_n (q := 70) hx (dc kX12_seen_0 40 rfl) rfl 2 rfl rfl ?_
          refine j_iload_n (q := 71) hx (dc kX12_seen_0 41 rfl) rfl 4 rfl rfl ?_
          refine j_iconst (q := 72) (v := (4 : Int32)) hx (dc kX12_seen_0 42 rfl) (by decide) rfl ?_
          refine w_cVIR (q := 75) (As := [.int x2, .int (4 : Int32)]) (st := [.int x3, vR x.2.2.2 v39]) hx (dc kX12_seen_0 43 rfl) cf12 (by decide) rfl (cI _ my_X12_its lm_X12_339 (by decide)) vs_X12_its rfl (fun u hu => sX12_its _ _ _ _ _ _ _ hu) (fun e => ite_ne (by unfold mX12_its at e; exact e)) (sum_le (sum_I (sum_R sum_nil)) (by decide)) rfl (fun v40 => ?_)
          refine j_iload (q := 77) hx (dc kX12_seen_0 44 rfl) 0 rfl rfl ?_
          refine w_cSIR (q := 80) (As := [.int v40, .int (v10 - v10 / (100 : Int32) * (100 : Int32))]) (st := [.int x3, vR x.2.2.2 v39]) hx (dc kX12_seen_0 45 rfl) (cI _ my_X12_has lm_X12_239 (by decide)) st_X12_has rfl (fun u hu => sX12_has _ _ _ _ _ _ hu) (sum_le (sum_I (sum_R sum_nil)) (by decide)) rfl (fun v42 => ?_)
          refine j_if_neS (q := 83) (tgt := 87) hx (dc kX12_seen_0 46 rfl) (by decide) rfl ?_ ?_
          · refine j_aload_n (q := 88) hx (dc kX12_seen_0 49 rfl) rfl 2 rfl rfl ?_
            refine j_iload_n (q := 89) hx (dc kX12_seen_0 50 rfl) rfl 4 rfl rfl ?_
            refine j_iconst (q := 90) (v := (5 : Int32)) hx (dc kX12_seen_0 51 rfl) (by decide) rfl ?_
            refine w_cVIR (q := 93) (As := [.int x2, .int (5 : Int32)]) (st := [.int x3, vR x.2.2.2 v39]) hx (dc kX12_seen_0 52 rfl) cf12 (by decide) rfl (cI _ my_X12_its lm_X12_339 (by decide)) vs_X12_its rfl (fun u hu => sX12_its _ _ _ _ _ _ _ hu) (fun e => ite_ne (by unfold mX12_its at e; exact e)) (sum_le (sum_I (sum_R sum_nil)) (by decide)) rfl (fun v44 => ?_)
            refine j_iload (q := 95) hx (dc kX12_seen_0 53 rfl) 0 rfl rfl ?_
            refine j_ishr (q := 96) hx (dc kX12_seen_0 54 rfl) rfl ?_
            refine j_iconst (q := 97) (v := (1 : Int32)) hx (dc kX12_seen_0 55 rfl) (by decide) rfl ?_
            refine j_iand (q := 98) hx (dc kX12_seen_0 56 rfl) rfl ?_
            exact j_sub [2, 3, 4, 5, 6] rfl (hb98 x0 x1 x2 x3 x4 v39 x3 ((v44 >>> ((v10 - v10 / (100 : Int32) * (100 : Int32)) &&& 31)) &&& (1 : Int32)) h)
          · refine j_iconst (q := 84) (v := (2 : Int32)) hx (dc kX12_seen_0 47 rfl) (by decide) rfl ?_
            refine j_goto (q := 98) hx (dc kX12_seen_0 48 rfl) (by decide) ?_
            exact j_sub [2, 3, 4, 5, 6] rfl (hb98 x0 x1 x2 x3 x4 v39 x3 (2 : Int32) h)
    exact j_loop (S := (Int32 × Int32 × Hp)) (lvf := fun s => [(0, vR x.2.2.2 x0), (1, .int x1), (2, .int x2), (3, .int s.1), (4, .int s.2.1)]) (hpf := fun s => s.2.2) (f := (fun s : (Int32 × Int32 × Hp) => mX12_seen_l13f x0 x1 x2 s.1 s.2.1 s.2.2)) (fun s => hB s.1 s.2.1 s.2.2) (x3, x4, h)
  unfold mX12_seen
  refine J.ckd fun hck => ?_
  refine j_iconst (q := 1) (v := (0 : Int32)) hx (dc kX12_seen_0 0 rfl) (by decide) rfl ?_
  refine j_istore_n (q := 2) (i := 3) (l2 := [(0, vR x.2.2.2 x0), (1, .int x1), (2, .int x2)]) hx (dc kX12_seen_0 1 rfl) rfl (hn 3 (by decide)) [0, 1, 2] rfl ⟨⟨show (0 : Nat) ≠ 3 by decide, Or.inl (show (0 : Nat) + 1 ≠ 3 by decide)⟩, ⟨⟨show (1 : Nat) ≠ 3 by decide, Or.inl (show (1 : Nat) + 1 ≠ 3 by decide)⟩, ⟨⟨show (2 : Nat) ≠ 3 by decide, Or.inr rfl⟩, trivial⟩⟩⟩ rfl ?_
  refine j_aload_n (q := 3) hx (dc kX12_seen_0 2 rfl) rfl 1 rfl rfl ?_
  refine w_gR (q := 6) hx (dc kX12_seen_0 3 rfl) ff_X12_0 lk_X12_7 rfl (fun v1 => ?_)
  refine j_bipush (q := 8) (v := (84 : Int32)) hx (dc kX12_seen_0 4 rfl) (by decide) rfl ?_
  refine j_iload_n (q := 9) hx (dc kX12_seen_0 5 rfl) rfl 2 rfl rfl ?_
  refine j_iadd (q := 10) hx (dc kX12_seen_0 6 rfl) rfl ?_
  refine j_ldI (q := 11) hx (dc kX12_seen_0 7 rfl) rfl (fun v2 => ?_)
  refine j_istore (q := 13) (i := 4) (l2 := [(3, .int (0 : Int32)), (0, vR x.2.2.2 x0), (1, .int x1), (2, .int x2)]) hx (dc kX12_seen_0 8 rfl) (hn 4 (by decide)) [0, 1, 2, 3] rfl ⟨⟨show (3 : Nat) ≠ 4 by decide, Or.inr rfl⟩, ⟨⟨show (0 : Nat) ≠ 4 by decide, Or.inl (show (0 : Nat) + 1 ≠ 4 by decide)⟩, ⟨⟨show (1 : Nat) ≠ 4 by decide, Or.inl (show (1 : Nat) + 1 ≠ 4 by decide)⟩, ⟨⟨show (2 : Nat) ≠ 4 by decide, Or.inl (show (2 : Nat) + 1 ≠ 4 by decide)⟩, trivial⟩⟩⟩⟩ rfl ?_
  exact j_sub [2, 3, 4, 1, 0] rfl (hb13 x0 x1 x2 (0 : Int32) v2 h)

