set_option maxHeartbeats 4000000 in
set_option maxRecDepth 100000 in
theorem sX12_empties (l : Launch) (w : Wd) (x0 : Nat) (h : Hp) (u : Hp) (hK : mX12_empties x0 h = some u) : M1 l w mi_X12_empties 1 [vR w x0] h u (none) := by
  refine M1.of (own := RX12) (T := fun _ r => r = u) hK (by decide +kernel) rfl (by first | (simp only [lg_lenR, lg_lenI, lg_lenL, lg_len0]; decide) | decide) (fun x hx hnl hhf hl hw hret hnm hQ h0e => ⟨?_, rfl⟩)
  subst hw
  subst hl
  have hR : Rt x h u (none) (none) := ⟨h0e, hhf, hret, hQ⟩
  have hn : ∀ i, i < 2 → i < x.2.2.1.1.1 := fun i hi => by rw [hnl]; exact hi
  have e0 : lv_args 0 [vR x.2.2.2 x0] = [(0, vR x.2.2.2 x0)] := by simp only [lv_argsR, lv_argsI, lv_argsL, lv_args0]
  rw [e0]
  have hb2 : ∀ (x0 : Nat) (x1 : Int32) (h : Hp), J x 2 [(0, vR x.2.2.2 x0), (1, .int x1)] [] h (mX12_empties_l2 x0 x1 h) (fun r => r = u) := by
    intro x0 x1 h
    have hB : ∀ (x1 : Int32) (h : Hp), J x 2 [(0, vR x.2.2.2 x0), (1, .int x1)] [] h (mX12_empties_l2f x0 x1 h) (TL (S := (Int32 × Hp)) x 2 (fun s => [(0, vR x.2.2.2 x0), (1, .int s.1)]) [] (fun s => s.2) (fun r => r = u)) := by
      intro x1 h
      unfold mX12_empties_l2f
      refine j_iload_n (q := 3) hx (dc kX12_empties_0 2 rfl) rfl 1 rfl rfl ?_
      refine j_aload_n (q := 4) hx (dc kX12_empties_0 3 rfl) rfl 0 rfl rfl ?_
      refine j_alen (q := 5) hx (dc kX12_empties_0 4 rfl) rfl (fun v1 => ?_)
      refine j_icmp_geS (q := 8) (tgt := 18) hx (dc kX12_empties_0 5 rfl) (by decide) rfl ?_ ?_
      · refine j_exit ?_
        exact r_vW hx hR (dc kX12_empties_0 12 rfl)
      · refine j_aload_n (q := 9) hx (dc kX12_empties_0 6 rfl) rfl 0 rfl rfl ?_
        refine j_iload_n (q := 10) hx (dc kX12_empties_0 7 rfl) rfl 1 rfl rfl ?_
        refine j_iconst (q := 11) (v := (0 : Int32)) hx (dc kX12_empties_0 8 rfl) (by decide) rfl ?_
        refine w_stI (q := 12) hx (dc kX12_empties_0 9 rfl) rfl (fun h2 => ?_)
        refine j_iinc (q := 15) (l2 := [(0, vR x.2.2.2 x0)]) hx (dc kX12_empties_0 10 rfl) 1 rfl (v := (1 : Int32)) (by decide) (hn 1 (by decide)) [0] rfl ⟨⟨show (0 : Nat) ≠ 1 by decide, Or.inr (vR_cat _ _)⟩, trivial⟩ rfl ?_
        refine j_goto (q := 2) hx (dc kX12_empties_0 11 rfl) (by decide) ?_
        exact j_back [1, 0] ((x1 + (1 : Int32)), h2) rfl rfl
    exact j_loop (S := (Int32 × Hp)) (lvf := fun s => [(0, vR x.2.2.2 x0), (1, .int s.1)]) (hpf := fun s => s.2) (f := (fun s : (Int32 × Hp) => mX12_empties_l2f x0 s.1 s.2)) (fun s => hB s.1 s.2) (x1, h)
  unfold mX12_empties
  refine j_iconst (q := 1) (v := (0 : Int32)) hx (dc kX12_empties_0 0 rfl) (by decide) rfl ?_
  refine j_istore_n (q := 2) (i := 1) (l2 := [(0, vR x.2.2.2 x0)]) hx (dc kX12_empties_0 1 rfl) rfl (hn 1 (by decide)) [0] rfl ⟨⟨show (0 : Nat) ≠ 1 by decide, Or.inr (vR_cat _ _)⟩, trivial⟩ rfl ?_
  exact j_sub [1, 0] rfl (hb2 x0 (0 : Int32) h)

set_option maxHeartbeats 4000000 in
set_option maxRecDepth 100000 in
theorem sX12_holds (l : Launch) (w : Wd) (x0 : Nat) (x1 : Nat) (x2 : Int32) (x3 : Int32) (h : Hp) (u : (Int32 × Hp)) (hK : mX12_holds x0 x1 x2 x3 h = some u) : M1 l w mi_X12_holds 1 [vR w x0, vR w x1, .int x2, .int x3] h u.2 (some (.int u.1)) := by
  refine M1.of (own := RX12) (T := fun _ r => r = u) hK (by decide +kernel) rfl (by first | (simp only [lg_lenR, lg_lenI, lg_lenL, lg_len0]; decide) | decide) (fun x hx hnl hhf hl hw hret hnm hQ h0e => ⟨?_, rfl⟩)
  subst hw
  subst hl
  have hR : Rt x h u.2 (some (.int u.1)) ((some .int)) := ⟨h0e, hhf, hret, hQ⟩
  have hn : ∀ i, i < 10 → i < x.2.2.1.1.1 := fun i hi => by rw [hnl]; exact hi
  have e0 : lv_args 0 [vR x.2.2.2 x0, vR x.2.2.2 x1, .int x2, .int x3] = [(0, vR x.2.2.2 x0), (1, vR x.2.2.2 x1), (2, .int x2), (3, .int x3)] := by simp only [lv_argsR, lv_argsI, lv_argsL, lv_args0]
  rw [e0]
  have hb11 : ∀ (x0 : Nat) (x1 : Nat) (x2 : Int32) (x3 : Int32) (x4 : Int32) (x5 : Int32) (h : Hp), J x 11 [(0, vR x.2.2.2 x0), (1, vR x.2.2.2 x1), (2, .int x2), (3, .int x3), (4, .int x4), (5, .int x5)] [] h (mX12_holds_l11 x0 x1 x2 x3 x4 x5 h) (fun r => r = u) := by
    intro x0 x1 x2 x3 x4 x5 h
    have hB : ∀ (x4 : Int32) (x5 : Int32) (h : Hp), J x 11 [(0, vR x.2.2.2 x0), (1, vR x.2.2.2 x1), (2, .int x2), (3, .int x3), (4, .int x4), (5, .int x5)] [] h (mX12_holds_l11f x0 x1 x2 x3 x4 x5 h) (TL (S := (Int32 × Int32 × Hp)) x 11 (fun s => [(0, vR x.2.2.2 x0), (1, vR x.2.2.2 x1), (2, .int x2), (3, .int x3), (4, .int s.1), (5, .int s.2.1)]) [] (fun s => s.2.2) (fun r => r = u)) := by
      intro x4 x5 h
      have hb227 : ∀ (x0 : Nat) (x1 : Nat) (x2 : Int32) (x3 : Int32) (x4 : Int32) (x5 : Int32) (h : Hp), J x 227 [(0, vR x.2.2.2 x0), (1, vR x.2.2.2 x1), (2, .int x2), (3, .int x3), (4, .int x4), (5, .int x5)] [] h (mX12_holds_b227 x0 x1 x2 x3 x4 x5 h) (TL (S := (Int32 × Int32 × Hp)) x 11 (fun s => [(0, vR x.2.2.2 x0), (1, vR x.2.2.2 x1), (2, .int x2), (3, .int x3), (4, .int s.1), (5, .int s.2.1)]) [] (fun s => s.2.2) (fun r => r = u)) := by
        intro x0 x1 x2 x3 x4 x5 h
        unfold mX12_holds_b227
        refine j_iinc (q := 230) (l2 := [(0, vR x.2.2.2 x0), (1, vR x.2.2.2 x1), (2, .int x2), (3, .int x3), (4, .int x4)]) hx (dc kX12_holds_2 3 rfl) 5 rfl (v := (1 : Int32)) (by decide) (hn 5 (by decide)) [0, 1, 2, 3, 4] rfl ⟨⟨show (0 : Nat) ≠ 5 by decide, Or.inl (show (0 : Nat) + 1 ≠ 5 by decide)⟩, ⟨⟨show (1 : Nat) ≠ 5 by decide, Or.inl (show (1 : Nat) + 1 ≠ 5 by decide)⟩, ⟨⟨show (2 : Nat) ≠ 5 by decide, Or.inl (show (2 : Nat) + 1 ≠ 5 by decide)⟩, ⟨⟨show (3 : Nat) ≠ 5 by decide, Or.inl (show (3 : Nat) + 1 ≠ 5 by decide)⟩, ⟨⟨show (4 : Nat) ≠ 5 by decide, Or.inr rfl⟩, trivial⟩⟩⟩⟩⟩ rfl ?_
        refine j_goto (q := 11) hx (dc kX12_holds_2 4 rfl) (by decide) ?_
        exact j_back [1, 2, 3, 4, 5, 0] (x4, (x5 + (1 : Int32)), h) rfl rfl
      have hb226 : ∀ (x0 : Nat) (x1 : Nat) (x2 : Int32) (x3 : Int32) (x4 : Int32) (x5 : Int32) (t0 : Nat) (t1 : Int32) (t2 : Int32) (h : Hp), J x 226 [(0, vR x.2.2.2 x0), (1, vR x.2.2.2 x1), (2, .int x2), (3, .int x3), (4, .int x4), (5, .int x5)] [.int t2, .int t1, vR x.2.2.2 t0] h (mX12_holds_b226 x0 x1 x2 x3 x4 x5 t0 t1 t2 h) (TL (S := (Int32 × Int32 × Hp)) x 11 (fun s => [(0, vR x.2.2.2 x0), (1, vR x.2.2.2 x1), (2, .int x2), (3, .int x3), (4, .int s.1), (5, .int s.2.1)]) [] (fun s => s.2.2) (fun r => r = u)) := by
        intro x0 x1 x2 x3 x4 x5 t0 t1 t2 h
        unfold mX12_holds_b226
        refine w_stI (q := 227) hx (dc kX12_holds_2 2 rfl) rfl (fun h12 => ?_)
        exact hb227 x0 x1 x2 x3 x4 x5 h12
      have hb165 : ∀ (x0 : Nat) (x1 : Nat) (x2 : Int32) (x3 : Int32) (x4 : Int32) (x5 : Int32) (t0 : Nat) (t1 : Int32) (t2 : Int32) (h : Hp), J x 165 [(0, vR x.2.2.2 x0), (1, vR x.2.2.2 x1), (2, .int x2), (3, .int x3), (4, .int x4), (5, .int x5)] [.int t2, .int t1, vR x.2.2.2 t0] h (mX12_holds_b165 x0 x1 x2 x3 x4 x5 t0 t1 t2 h) (TL (S := (Int32 × Int32 × Hp)) x 11 (fun s => [(0, vR x.2.2.2 x0), (1, vR x.2.2.2 x1), (2, .int x2), (3, .int x3), (4, .int s.1), (5, .int s.2.1)]) [] (fun s => s.2.2) (fun r => r = u)) := by
        intro x0 x1 x2 x3 x4 x5 t0 t1 t2 h
        unfold mX12_holds_b165
        refine w_stI (q := 166) hx (dc kX12_holds_1 31 rfl) rfl (fun h18 => ?_)
        refine j_iinc (q := 169) (l2 := [(0, vR x.2.2.2 x0), (1, vR x.2.2.2 x1), (2, .int x2), (3, .int x3), (5, .int x5)]) hx (dc kX12_holds_1 32 rfl) 4 rfl (v := (1 : Int32)) (by decide) (hn 4 (by decide)) [0, 1, 2, 3, 5] rfl ⟨⟨show (0 : Nat) ≠ 4 by decide, Or.inl (show (0 : Nat) + 1 ≠ 4 by decide)⟩, ⟨⟨show (1 : Nat) ≠ 4 by decide, Or.inl (show (1 : Nat) + 1 ≠ 4 by decide)⟩, ⟨⟨show (2 : Nat) ≠ 4 by decide, Or.inl (show (2 : Nat) + 1 ≠ 4 by decide)⟩, ⟨⟨show (3 : Nat) ≠ 4 by decide, Or.inr rfl⟩, ⟨⟨show (5 : Nat) ≠ 4 by decide, Or.inl (show (5 : Nat) + 1 ≠ 4 by decide)⟩, trivial⟩⟩⟩⟩⟩ rfl ?_
        refine j_goto (q := 227) hx (dc kX12_holds_1 33 rfl) (by decide) ?_
        exact j_sub [1, 2, 3, 4, 0, 5] rfl (hb227 x0 x1 x2 x3 (x4 + (1 : Int32)) x5 h18)
      have hb113 : ∀ (x0 : Nat) (x1 : Nat) (x2 : Int32) (x3 : Int32) (x4 : Int32) (x5 : Int32) (x7 : Int32) (x8 : Int32) (x9 : Int32) (h : Hp), J x 113 [(0, vR x.2.2.2 x0), (1, vR x.2.2.2 x1), (2, .int x2), (3, .int x3), (4, .int x4), (5, .int x5), (7, .int x7), (8, .int x8), (9, .int x9)] [] h (mX12_holds_l113 x0 x1 x2 x3 x4 x5 x7 x8 x9 h) (TL (S := (Int32 × Int32 × Hp)) x 11 (fun s => [(0, vR x.2.2.2 x0), (1, vR x.2.2.2 x1), (2, .int x2), (3, .int x3), (4, .int s.1), (5, .int s.2.1)]) [] (fun s => s.2.2) (fun r => r = u)) := by
        intro x0 x1 x2 x3 x4 x5 x7 x8 x9 h
        have hB : ∀ (x4 : Int32) (x8 : Int32) (x9 : Int32), J x 113 [(0, vR x.2.2.2 x0), (1, vR x.2.2.2 x1), (2, .int x2), (3, .int x3), (4, .int x4), (5, .int x5), (7, .int x7), (8, .int x8), (9, .int x9)] [] h (mX12_holds_l113f x0 x1 x2 x3 x5 x7 h x4 x8 x9) (TL (S := (Int32 × Int32 × Int32)) x 113 (fun s => [(0, vR x.2.2.2 x0), (1, vR x.2.2.2 x1), (2, .int x2), (3, .int x3), (4, .int s.1), (5, .int x5), (7, .int x7), (8, .int s.2.1), (9, .int s.2.2)]) [] (fun s => h) (TL (S := (Int32 × Int32 × Hp)) x 11 (fun s => [(0, vR x.2.2.2 x0), (1, vR x.2.2.2 x1), (2, .int x2), (3, .int x3), (4, .int s.1), (5, .int s.2.1)]) [] (fun s => s.2.2) (fun r => r = u))) := by
          intro x4 x8 x9
          unfold mX12_holds_l113f
          refine j_iload (q := 115) hx (dc kX12_holds_1 5 rfl) 8 rfl rfl ?_
          refine j_iload (q := 117) hx (dc kX12_holds_1 6 rfl) 6 rfl rfl ?_
          refine j_bipush (q := 119) (v := (10 : Int32)) hx (dc kX12_holds_1 7 rfl) (by decide) rfl ?_
          refine j_irem (q := 120) hx (dc kX12_holds_1 8 rfl) rfl ?_
          refine j_icmp_geS (q := 123) (tgt := 144) hx (dc kX12_holds_1 9 rfl) (by decide) rfl ?_ ?_
          · refine j_exit ?_
            refine j_aload_n (q := 145) hx (dc kX12_holds_1 20 rfl) rfl 0 rfl rfl ?_
            refine w_gR (q := 148) hx (dc kX12_holds_1 21 rfl) ff_X12_23 lk_X12_43 rfl (fun v17 => ?_)
            refine j_iload (q := 150) hx (dc kX12_holds_1 22 rfl) 4 rfl rfl ?_
            refine j_iload (q := 152) hx (dc kX12_holds_1 23 rfl) 7 rfl rfl ?_
            refine j_iload (q := 154) hx (dc kX12_holds_1 24 rfl) 6 rfl rfl ?_
            refine j_bipush (q := 156) (v := (10 : Int32)) hx (dc kX12_holds_1 25 rfl) (by decide) rfl ?_
            refine j_idiv (q := 157) hx (dc kX12_holds_1 26 rfl) rfl ?_
            refine j_icmp_lt (q := 160) (tgt := 164) hx (dc kX12_holds_1 27 rfl) (by decide) Iff.rfl rfl ?_ ?_
            · refine j_iconst (q := 165) (v := (0 : Int32)) hx (dc kX12_holds_1 30 rfl) (by decide) rfl ?_
              exact j_sub [0, 1, 2, 3, 4, 5] rfl (hb165 x0 x1 x2 x3 x4 x5 v17 x4 (0 : Int32) h)
            · refine j_iconst (q := 161) (v := (1 : Int32)) hx (dc kX12_holds_1 28 rfl) (by decide) rfl ?_
              refine j_goto (q := 165) hx (dc kX12_holds_1 29 rfl) (by decide) ?_
              exact j_sub [0, 1, 2, 3, 4, 5] rfl (hb165 x0 x1 x2 x3 x4 x5 v17 x4 (1 : Int32) h)
          · refine j_iinc (q := 126) (l2 := [(0, vR x.2.2.2 x0), (1, vR x.2.2.2 x1), (2, .int x2), (3, .int x3), (5, .int x5), (7, .int x7), (8, .int x8), (9, .int x9)]) hx (dc kX12_holds_1 10 rfl) 4 rfl (v := (-1 : Int32)) (by decide) (hn 4 (by decide)) [0, 1, 2, 3, 5, 6, 7, 8] rfl ⟨⟨show (0 : Nat) ≠ 4 by decide, Or.inl (show (0 : Nat) + 1 ≠ 4 by decide)⟩, ⟨⟨show (1 : Nat) ≠ 4 by decide, Or.inl (show (1 : Nat) + 1 ≠ 4 by decide)⟩, ⟨⟨show (2 : Nat) ≠ 4 by decide, Or.inl (show (2 : Nat) + 1 ≠ 4 by decide)⟩, ⟨⟨show (3 : Nat) ≠ 4 by decide, Or.inr rfl⟩, ⟨⟨show (5 : Nat) ≠ 4 by decide, Or.inl (show (5 : Nat) + 1 ≠ 4 by decide)⟩, ⟨⟨show (7 : Nat) ≠ 4 by decide, Or.inl (show (7 : Nat) + 1 ≠ 4 by decide)⟩, ⟨⟨show (8 : Nat) ≠ 4 by decide, Or.inl (show (8 : Nat) + 1 ≠ 4 by decide)⟩, ⟨⟨show (9 : Nat) ≠ 4 by decide, Or.inl (show (9 : Nat) + 1 ≠ 4 by decide)⟩, trivial⟩⟩⟩⟩⟩⟩⟩⟩ rfl ?_
            refine j_iload (q := 128) hx (dc kX12_holds_1 11 rfl) 7 rfl rfl ?_
            refine j_aload_n (q := 129) hx (dc kX12_holds_1 12 rfl) rfl 1 rfl rfl ?_
            refine w_gR (q := 132) hx (dc kX12_holds_1 13 rfl) ff_X12_23 lk_X12_43 rfl (fun v19 => ?_)
            refine j_iload (q := 134) hx (dc kX12_holds_1 14 rfl) 0 rfl rfl ?_
            refine j_ldI (q := 135) hx (dc kX12_holds_1 15 rfl) rfl (fun v20 => ?_)
            refine j_iadd (q := 136) hx (dc kX12_holds_1 16 rfl) rfl ?_
            refine j_istore (q := 138) (i := 8) (l2 := [(4, .int (x4 + (-1 : Int32))), (0, vR x.2.2.2 x0), (1, vR x.2.2.2 x1), (2, .int x2), (3, .int x3), (5, .int x5), (7, .int x7), (9, .int x9)]) hx (dc kX12_holds_1 17 rfl) (hn 8 (by decide)) [0, 1, 2, 3, 4, 5, 6, 8] rfl ⟨⟨show (4 : Nat) ≠ 8 by decide, Or.inl (show (4 : Nat) + 1 ≠ 8 by decide)⟩, ⟨⟨show (0 : Nat) ≠ 8 by decide, Or.inl (show (0 : Nat) + 1 ≠ 8 by decide)⟩, ⟨⟨show (1 : Nat) ≠ 8 by decide, Or.inl (show (1 : Nat) + 1 ≠ 8 by decide)⟩, ⟨⟨show (2 : Nat) ≠ 8 by decide, Or.inl (show (2 : Nat) + 1 ≠ 8 by decide)⟩, ⟨⟨show (3 : Nat) ≠ 8 by decide, Or.inl (show (3 : Nat) + 1 ≠ 8 by decide)⟩, ⟨⟨show (5 : Nat) ≠ 8 by decide, Or.inl (show (5 : Nat) + 1 ≠ 8 by decide)⟩, ⟨⟨show (7 : Nat) ≠ 8 by decide, Or.inr rfl⟩, ⟨⟨show (9 : Nat) ≠ 8 by decide, Or.inl (show (9 : Nat) + 1 ≠ 8 by decide)⟩, trivial⟩⟩⟩⟩⟩⟩⟩⟩ rfl ?_
            refine j_iinc (q := 141) (l2 := [(8, .int (x8 + v20)), (4, .int (x4 + (-1 : Int32))), (0, vR x.2.2.2 x0), (1, vR x.2.2.2 x1), (2, .int x2), (3, .int x3), (5, .int x5), (7, .int x7)]) hx (dc kX12_holds_1 18 rfl) 8 rfl (v := (1 : Int32)) (by decide) (hn 9 (by decide)) [0, 1, 2, 3, 4, 5, 6, 7] rfl ⟨⟨show (8 : Nat) ≠ 9 by decide, Or.inr rfl⟩, ⟨⟨show (4 : Nat) ≠ 9 by decide, Or.inl (show (4 : Nat) + 1 ≠ 9 by decide)⟩, ⟨⟨show (0 : Nat) ≠ 9 by decide, Or.inl (show (0 : Nat) + 1 ≠ 9 by decide)⟩, ⟨⟨show (1 : Nat) ≠ 9 by decide, Or.inl (show (1 : Nat) + 1 ≠ 9 by decide)⟩, ⟨⟨show (2 : Nat) ≠ 9 by decide, Or.inl (show (2 : Nat) + 1 ≠ 9 by decide)⟩, ⟨⟨show (3 : Nat) ≠ 9 by decide, Or.inl (show (3 : Nat) + 1 ≠ 9 by decide)⟩, ⟨⟨show (5 : Nat) ≠ 9 by decide, Or.inl (show (5 : Nat) + 1 ≠ 9 by decide)⟩, ⟨⟨show (7 : Nat) ≠ 9 by decide, Or.inl (show (7 : Nat) + 1 ≠ 9 by decide)⟩, trivial⟩⟩⟩⟩⟩⟩⟩⟩ rfl ?_
            refine j_goto (q := 113) hx (dc kX12_holds_1 19 rfl) (by decide) ?_
            exact j_back [3, 4, 5, 6, 2, 7, 8, 1, 0] ((x4 + (-1 : Int32)), (x8 + v20), (x9 + (1 : Int32))) rfl rfl
        exact j_loop (S := (Int32 × Int32 × Int32)) (lvf := fun s => [(0, vR x.2.2.2 x0), (1, vR x.2.2.2 x1), (2, .int x2), (3, .int x3), (4, .int s.1), (5, .int x5), (7, .int x7), (8, .int s.2.1), (9, .int s.2.2)]) (hpf := fun s => h) (f := (fun s : (Int32 × Int32 × Int32) => mX12_holds_l113f x0 x1 x2 x3 x5 x7 h s.1 s.2.1 s.2.2)) (fun s => hB s.1 s.2.1 s.2.2) (x4, x8, x9)
      unfold mX12_holds_l11f
      refine j_iload (q := 13) hx (dc kX12_holds_0 8 rfl) 5 rfl rfl ?_
      refine j_aload_n (q := 14) hx (dc kX12_holds_0 9 rfl) rfl 1 rfl rfl ?_
      refine j_bipush (q := 16) (v := (117 : Int32)) hx (dc kX12_holds_0 10 rfl) (by decide) rfl ?_
      refine j_iload_n (q := 17) hx (dc kX12_holds_0 11 rfl) rfl 2 rfl rfl ?_
      refine j_iadd (q := 18) hx (dc kX12_holds_0 12 rfl) rfl ?_
      refine j_ldI (q := 19) hx (dc kX12_holds_0 13 rfl) rfl (fun v2 => ?_)
      refine j_icmp_geS (q := 22) (tgt := 233) hx (dc kX12_holds_0 14 rfl) (by decide) rfl ?_ ?_
      · refine j_exit ?_
        refine j_aload_n (q := 234) hx (dc kX12_holds_2 5 rfl) rfl 0 rfl rfl ?_
        refine w_gR (q := 237) hx (dc kX12_holds_2 6 rfl) ff_X12_23 lk_X12_43 rfl (fun v3 => ?_)
        refine j_iconst (q := 238) (v := (0 : Int32)) hx (dc kX12_holds_2 7 rfl) (by decide) rfl ?_
        refine j_ldI (q := 239) hx (dc kX12_holds_2 8 rfl) rfl (fun v4 => ?_)
        exact r_iW hx hR (dc kX12_holds_2 9 rfl)
      · refine j_aload_n (q := 23) hx (dc kX12_holds_0 15 rfl) rfl 1 rfl rfl ?_
        refine j_sipush (q := 26) (v := (150 : Int32)) hx (dc kX12_holds_0 16 rfl) (by decide) rfl ?_
        refine j_iload (q := 28) hx (dc kX12_holds_0 17 rfl) 5 rfl rfl ?_
        refine j_iadd (q := 29) hx (dc kX12_holds_0 18 rfl) rfl ?_
        refine j_ldI (q := 30) hx (dc kX12_holds_0 19 rfl) rfl (fun v5 => ?_)
        refine j_bipush (q := 32) (v := (100 : Int32)) hx (dc kX12_holds_0 20 rfl) (by decide) rfl ?_
        refine j_idiv (q := 33) hx (dc kX12_holds_0 21 rfl) rfl ?_
        refine j_istore (q := 35) (i := 6) (l2 := [(0, vR x.2.2.2 x0), (1, vR x.2.2.2 x1), (2, .int x2), (3, .int x3), (4, .int x4), (5, .int x5)]) hx (dc kX12_holds_0 22 rfl) (hn 6 (by decide)) [0, 1, 2, 3, 4, 5] rfl ⟨⟨show (0 : Nat) ≠ 6 by decide, Or.inl (show (0 : Nat) + 1 ≠ 6 by decide)⟩, ⟨⟨show (1 : Nat) ≠ 6 by decide, Or.inl (show (1 : Nat) + 1 ≠ 6 by decide)⟩, ⟨⟨show (2 : Nat) ≠ 6 by decide, Or.inl (show (2 : Nat) + 1 ≠ 6 by decide)⟩, ⟨⟨show (3 : Nat) ≠ 6 by decide, Or.inl (show (3 : Nat) + 1 ≠ 6 by decide)⟩, ⟨⟨show (4 : Nat) ≠ 6 by decide, Or.inl (show (4 : Nat) + 1 ≠ 6 by decide)⟩, ⟨⟨show (5 : Nat) ≠ 6 by decide, Or.inr rfl⟩, trivial⟩⟩⟩⟩⟩⟩ rfl ?_
        refine j_aload_n (q := 36) hx (dc kX12_holds_0 23 rfl) rfl 2 rfl rfl ?_
        refine j_sipush (q := 39) (v := (150 : Int32)) hx (dc kX12_holds_0 24 rfl) (by decide) rfl ?_
        refine j_iload (q := 41) hx (dc kX12_holds_0 25 rfl) 6 rfl rfl ?_
        refine j_iadd (q := 42) hx (dc kX12_holds_0 26 rfl) rfl ?_
        refine j_ldI (q := 43) hx (dc kX12_holds_0 27 rfl) rfl (fun v6 => ?_)
        refine j_bipush (q := 45) (v := (100 : Int32)) hx (dc kX12_holds_0 28 rfl) (by decide) rfl ?_
        refine j_irem (q := 46) hx (dc kX12_holds_0 29 rfl) rfl ?_
        refine j_istore (q := 48) (i := 7) (l2 := [(6, .int (v5 / (100 : Int32))), (0, vR x.2.2.2 x0), (1, vR x.2.2.2 x1), (2, .int x2), (3, .int x3), (4, .int x4), (5, .int x5)]) hx (dc kX12_holds_0 30 rfl) (hn 7 (by decide)) [0, 1, 2, 3, 4, 5, 6] rfl ⟨⟨show (6 : Nat) ≠ 7 by decide, Or.inr rfl⟩, ⟨⟨show (0 : Nat) ≠ 7 by decide, Or.inl (show (0 : Nat) + 1 ≠ 7 by decide)⟩, ⟨⟨show (1 : Nat) ≠ 7 by decide, Or.inl (show (1 : Nat) + 1 ≠ 7 by decide)⟩, ⟨⟨show (2 : Nat) ≠ 7 by decide, Or.inl (show (2 : Nat) + 1 ≠ 7 by decide)⟩, ⟨⟨show (3 : Nat) ≠ 7 by decide, Or.inl (show (3 : Nat) + 1 ≠ 7 by decide)⟩, ⟨⟨show (4 : Nat) ≠ 7 by decide, Or.inl (show (4 : Nat) + 1 ≠ 7 by decide)⟩, ⟨⟨show (5 : Nat) ≠ 7 by decide, Or.inl (show (5 : Nat) + 1 ≠ 7 by decide)⟩, trivial⟩⟩⟩⟩⟩⟩⟩ rfl ?_
        refine j_iload (q := 50) hx (dc kX12_holds_0 31 rfl) 1 rfl rfl ?_
        refine j_if_neS (q := 53) (tgt := 72) hx (dc kX12_holds_0 32 rfl) (by decide) rfl ?_ ?_
        · refine j_iload (q := 74) hx (dc kX12_holds_0 44 rfl) 1 rfl rfl ?_
          refine j_iconst (q := 75) (v := (1 : Int32)) hx (dc kX12_holds_0 45 rfl) (by decide) rfl ?_
          refine j_icmp_neS (q := 78) (tgt := 101) hx (dc kX12_holds_0 46 rfl) (by decide) rfl ?_ ?_
          · refine j_iload (q := 103) hx (dc kX12_holds_0 62 rfl) 1 rfl rfl ?_
            refine j_iconst (q := 104) (v := (4 : Int32)) hx (dc kX12_holds_0 63 rfl) (by decide) rfl ?_
            refine j_icmp_neS (q := 107) (tgt := 172) hx (dc kX12_holds_1 0 rfl) (by decide) rfl ?_ ?_
            · refine j_iinc (q := 175) (l2 := [(6, .int (v5 / (100 : Int32))), (0, vR x.2.2.2 x0), (1, vR x.2.2.2 x1), (2, .int x2), (3, .int x3), (5, .int x5)]) hx (dc kX12_holds_1 34 rfl) 6 rfl (v := (-1 : Int32)) (by decide) (hn 4 (by decide)) [1, 2, 3, 4, 5, 7] rfl ⟨⟨show (6 : Nat) ≠ 4 by decide, Or.inl (show (6 : Nat) + 1 ≠ 4 by decide)⟩, ⟨⟨show (0 : Nat) ≠ 4 by decide, Or.inl (show (0 : Nat) + 1 ≠ 4 by decide)⟩, ⟨⟨show (1 : Nat) ≠ 4 by decide, Or.inl (show (1 : Nat) + 1 ≠ 4 by decide)⟩, ⟨⟨show (2 : Nat) ≠ 4 by decide, Or.inl (show (2 : Nat) + 1 ≠ 4 by decide)⟩, ⟨⟨show (3 : Nat) ≠ 4 by decide, Or.inr rfl⟩, ⟨⟨show (5 : Nat) ≠ 4 by decide, Or.inl (show (5 : Nat) + 1 ≠ 4 by decide)⟩, trivial⟩⟩⟩⟩⟩⟩ rfl ?_
              refine j_aload_n (q := 176) hx (dc kX12_holds_1 35 rfl) rfl 2 rfl rfl ?_
              refine w_gR (q := 179) hx (dc kX12_holds_1 36 rfl) ff_X12_23 lk_X12_43 rfl (fun v7 => ?_)
              refine j_iload (q := 181) hx (dc kX12_holds_1 37 rfl) 0 rfl rfl ?_
              refine j_iconst (q := 182) (v := (1 : Int32)) hx (dc kX12_holds_1 38 rfl) (by decide) rfl ?_
              refine j_isub (q := 183) hx (dc kX12_holds_1 39 rfl) rfl ?_
              refine j_iload (q := 185) hx (dc kX12_holds_1 40 rfl) 1 rfl rfl ?_
              refine j_iconst (q := 186) (v := (2 : Int32)) hx (dc kX12_holds_1 41 rfl) (by decide) rfl ?_
              refine j_icmp_neS (q := 189) (tgt := 209) hx (dc kX12_holds_1 42 rfl) (by decide) rfl ?_ ?_
              · refine j_aload_n (q := 210) hx (dc kX12_holds_1 55 rfl) rfl 2 rfl rfl ?_
                refine w_gR (q := 213) hx (dc kX12_holds_1 56 rfl) ff_X12_23 lk_X12_43 rfl (fun v8 => ?_)
                refine j_iload (q := 215) hx (dc kX12_holds_1 57 rfl) 0 rfl rfl ?_
                refine j_iconst (q := 216) (v := (1 : Int32)) hx (dc kX12_holds_1 58 rfl) (by decide) rfl ?_
                refine j_isub (q := 217) hx (dc kX12_holds_1 59 rfl) rfl ?_
                refine j_ldI (q := 218) hx (dc kX12_holds_1 60 rfl) rfl (fun v9 => ?_)
                refine j_aload_n (q := 219) hx (dc kX12_holds_1 61 rfl) rfl 2 rfl rfl ?_
                refine w_gR (q := 222) hx (dc kX12_holds_1 62 rfl) ff_X12_23 lk_X12_43 rfl (fun v10 => ?_)
                refine j_iload (q := 224) hx (dc kX12_holds_1 63 rfl) 0 rfl rfl ?_
                refine j_ldI (q := 225) hx (dc kX12_holds_2 0 rfl) rfl (fun v11 => ?_)
                refine j_ior (q := 226) hx (dc kX12_holds_2 1 rfl) rfl ?_
                exact j_sub [2, 3, 4, 5, 0, 6] rfl (hb226 x0 x1 x2 x3 (x4 + (-1 : Int32)) x5 v7 ((x4 + (-1 : Int32)) - (1 : Int32)) (v9 ||| v11) h)
              · refine j_aload_n (q := 190) hx (dc kX12_holds_1 43 rfl) rfl 2 rfl rfl ?_
                refine w_gR (q := 193) hx (dc kX12_holds_1 44 rfl) ff_X12_23 lk_X12_43 rfl (fun v13 => ?_)
                refine j_iload (q := 195) hx (dc kX12_holds_1 45 rfl) 0 rfl rfl ?_
                refine j_iconst (q := 196) (v := (1 : Int32)) hx (dc kX12_holds_1 46 rfl) (by decide) rfl ?_
                refine j_isub (q := 197) hx (dc kX12_holds_1 47 rfl) rfl ?_
                refine j_ldI (q := 198) hx (dc kX12_holds_1 48 rfl) rfl (fun v14 => ?_)
                refine j_aload_n (q := 199) hx (dc kX12_holds_1 49 rfl) rfl 2 rfl rfl ?_
                refine w_gR (q := 202) hx (dc kX12_holds_1 50 rfl) ff_X12_23 lk_X12_43 rfl (fun v15 => ?_)
                refine j_iload (q := 204) hx (dc kX12_holds_1 51 rfl) 0 rfl rfl ?_
                refine j_ldI (q := 205) hx (dc kX12_holds_1 52 rfl) rfl (fun v16 => ?_)
                refine j_iand (q := 206) hx (dc kX12_holds_1 53 rfl) rfl ?_
                refine j_goto (q := 226) hx (dc kX12_holds_1 54 rfl) (by decide) ?_
                exact j_sub [2, 3, 4, 5, 0, 6] rfl (hb226 x0 x1 x2 x3 (x4 + (-1 : Int32)) x5 v7 ((x4 + (-1 : Int32)) - (1 : Int32)) (v14 &&& v16) h)
            · refine j_iconst (q := 108) (v := (0 : Int32)) hx (dc kX12_holds_1 1 rfl) (by decide) rfl ?_
              refine j_istore (q := 110) (i := 8) (l2 := [(7, .int (v6 - v6 / (100 : Int32) * (100 : Int32))), (0, vR x.2.2.2 x0), (1, vR x.2.2.2 x1), (2, .int x2), (3, .int x3), (4, .int x4), (5, .int x5)]) hx (dc kX12_holds_1 2 rfl) (hn 8 (by decide)) [0, 2, 3, 4, 5, 6, 7] rfl ⟨⟨show (7 : Nat) ≠ 8 by decide, Or.inr rfl⟩, ⟨⟨show (0 : Nat) ≠ 8 by decide, Or.inl (show (0 : Nat) + 1 ≠ 8 by decide)⟩, ⟨⟨show (1 : Nat) ≠ 8 by decide, Or.inl (show (1 : Nat) + 1 ≠ 8 by decide)⟩, ⟨⟨show (2 : Nat) ≠ 8 by decide, Or.inl (show (2 : Nat) + 1 ≠ 8 by decide)⟩, ⟨⟨show (3 : Nat) ≠ 8 by decide, Or.inl (show (3 : Nat) + 1 ≠ 8 by decide)⟩, ⟨⟨show (4 : Nat) ≠ 8 by decide, Or.inl (show (4 : Nat) + 1 ≠ 8 by decide)⟩, ⟨⟨show (5 : Nat) ≠ 8 by decide, Or.inl (show (5 : Nat) + 1 ≠ 8 by decide)⟩, trivial⟩⟩⟩⟩⟩⟩⟩ rfl ?_
              refine j_iconst (q := 111) (v := (0 : Int32)) hx (dc kX12_holds_1 3 rfl) (by decide) rfl ?_
              refine j_istore (q := 113) (i := 9) (l2 := [(8, .int (0 : Int32)), (7, .int (v6 - v6 / (100 : Int32) * (100 : Int32))), (0, vR x.2.2.2 x0), (1, vR x.2.2.2 x1), (2, .int x2), (3, .int x3), (4, .int x4), (5, .int x5)]) hx (dc kX12_holds_1 4 rfl) (hn 9 (by decide)) [0, 1, 2, 3, 4, 5, 6, 7] rfl ⟨⟨show (8 : Nat) ≠ 9 by decide, Or.inr rfl⟩, ⟨⟨show (7 : Nat) ≠ 9 by decide, Or.inl (show (7 : Nat) + 1 ≠ 9 by decide)⟩, ⟨⟨show (0 : Nat) ≠ 9 by decide, Or.inl (show (0 : Nat) + 1 ≠ 9 by decide)⟩, ⟨⟨show (1 : Nat) ≠ 9 by decide, Or.inl (show (1 : Nat) + 1 ≠ 9 by decide)⟩, ⟨⟨show (2 : Nat) ≠ 9 by decide, Or.inl (show (2 : Nat) + 1 ≠ 9 by decide)⟩, ⟨⟨show (3 : Nat) ≠ 9 by decide, Or.inl (show (3 : Nat) + 1 ≠ 9 by decide)⟩, ⟨⟨show (4 : Nat) ≠ 9 by decide, Or.inl (show (4 : Nat) + 1 ≠ 9 by decide)⟩, ⟨⟨show (5 : Nat) ≠ 9 by decide, Or.inl (show (5 : Nat) + 1 ≠ 9 by decide)⟩, trivial⟩⟩⟩⟩⟩⟩⟩⟩ rfl ?_
              exact j_sub [3, 4, 5, 6, 7, 8, 2, 1, 0] rfl (hb113 x0 x1 x2 x3 x4 x5 (v6 - v6 / (100 : Int32) * (100 : Int32)) (0 : Int32) (0 : Int32) h)
          · refine j_aload_n (q := 79) hx (dc kX12_holds_0 47 rfl) rfl 2 rfl rfl ?_
            refine w_gR (q := 82) hx (dc kX12_holds_0 48 rfl) ff_X12_23 lk_X12_43 rfl (fun v21 => ?_)
            refine j_iload (q := 84) hx (dc kX12_holds_0 49 rfl) 6 rfl rfl ?_
            refine j_iconst (q := 85) (v := (1 : Int32)) hx (dc kX12_holds_0 50 rfl) (by decide) rfl ?_
            refine j_isub (q := 86) hx (dc kX12_holds_0 51 rfl) rfl ?_
            refine j_iconst (q := 87) (v := (1 : Int32)) hx (dc kX12_holds_0 52 rfl) (by decide) rfl ?_
            refine j_aload_n (q := 88) hx (dc kX12_holds_0 53 rfl) rfl 2 rfl rfl ?_
            refine w_gR (q := 91) hx (dc kX12_holds_0 54 rfl) ff_X12_23 lk_X12_43 rfl (fun v22 => ?_)
            refine j_iload (q := 93) hx (dc kX12_holds_0 55 rfl) 6 rfl rfl ?_
            refine j_iconst (q := 94) (v := (1 : Int32)) hx (dc kX12_holds_0 56 rfl) (by decide) rfl ?_
            refine j_isub (q := 95) hx (dc kX12_holds_0 57 rfl) rfl ?_
            refine j_ldI (q := 96) hx (dc kX12_holds_0 58 rfl) rfl (fun v23 => ?_)
            refine j_isub (q := 97) hx (dc kX12_holds_0 59 rfl) rfl ?_
            refine w_stI (q := 98) hx (dc kX12_holds_0 60 rfl) rfl (fun h24 => ?_)
            refine j_goto (q := 227) hx (dc kX12_holds_0 61 rfl) (by decide) ?_
            exact j_sub [2, 3, 4, 5, 6, 7] rfl (hb227 x0 x1 x2 x3 x4 x5 h24)
        · refine j_aload_n (q := 54) hx (dc kX12_holds_0 33 rfl) rfl 2 rfl rfl ?_
          refine w_gR (q := 57) hx (dc kX12_holds_0 34 rfl) ff_X12_23 lk_X12_43 rfl (fun v25 => ?_)
          refine j_iload (q := 59) hx (dc kX12_holds_0 35 rfl) 6 rfl rfl ?_
          refine j_iload_n (q := 60) hx (dc kX12_holds_0 36 rfl) rfl 5 rfl rfl ?_
          refine j_iload (q := 62) hx (dc kX12_holds_0 37 rfl) 0 rfl rfl ?_
          refine j_ishr (q := 63) hx (dc kX12_holds_0 38 rfl) rfl ?_
          refine j_iconst (q := 64) (v := (1 : Int32)) hx (dc kX12_holds_0 39 rfl) (by decide) rfl ?_
          refine j_iand (q := 65) hx (dc kX12_holds_0 40 rfl) rfl ?_
          refine w_stI (q := 66) hx (dc kX12_holds_0 41 rfl) rfl (fun h26 => ?_)
          refine j_iinc (q := 69) (l2 := [(0, vR x.2.2.2 x0), (1, vR x.2.2.2 x1), (2, .int x2), (3, .int x3), (5, .int x5)]) hx (dc kX12_holds_0 42 rfl) 6 rfl (v := (1 : Int32)) (by decide) (hn 4 (by decide)) [2, 3, 4, 5, 7] rfl ⟨⟨show (0 : Nat) ≠ 4 by decide, Or.inl (show (0 : Nat) + 1 ≠ 4 by decide)⟩, ⟨⟨show (1 : Nat) ≠ 4 by decide, Or.inl (show (1 : Nat) + 1 ≠ 4 by decide)⟩, ⟨⟨show (2 : Nat) ≠ 4 by decide, Or.inl (show (2 : Nat) + 1 ≠ 4 by decide)⟩, ⟨⟨show (3 : Nat) ≠ 4 by decide, Or.inr rfl⟩, ⟨⟨show (5 : Nat) ≠ 4 by decide, Or.inl (show (5 : Nat) + 1 ≠ 4 by decide)⟩, trivial⟩⟩⟩⟩⟩ rfl ?_
          refine j_goto (q := 227) hx (dc kX12_holds_0 43 rfl) (by decide) ?_
          exact j_sub [1, 2, 3, 4, 0, 5] rfl (hb227 x0 x1 x2 x3 (x4 + (1 : Int32)) x5 h26)
    exact j_loop (S := (Int32 × Int32 × Hp)) (lvf := fun s => [(0, vR x.2.2.2 x0), (1, vR x.2.2.2 x1), (2, .int x2), (3, .int x3), (4, .int s.1), (5, .int s.2.1)]) (hpf := fun s => s.2.2) (f := (fun s : (Int32 × Int32 × Hp) => mX12_holds_l11f x0 x1 x2 x3 s.1 s.2.1 s.2.2)) (fun s => hB s.1 s.2.1 s.2.2) (x4, x5, h)
  unfold mX12_holds
  refine J.ckd fun hck => ?_
  refine j_iconst (q := 1) (v := (0 : Int32)) hx (dc kX12_holds_0 0 rfl) (by decide) rfl ?_
  refine j_istore (q := 3) (i := 4) (l2 := [(0, vR x.2.2.2 x0), (1, vR x.2.2.2 x1), (2, .int x2), (3, .int x3)]) hx (dc kX12_holds_0 1 rfl) (hn 4 (by decide)) [0, 1, 2, 3] rfl ⟨⟨show (0 : Nat) ≠ 4 by decide, Or.inl (show (0 : Nat) + 1 ≠ 4 by decide)⟩, ⟨⟨show (1 : Nat) ≠ 4 by decide, Or.inl (show (1 : Nat) + 1 ≠ 4 by decide)⟩, ⟨⟨show (2 : Nat) ≠ 4 by decide, Or.inl (show (2 : Nat) + 1 ≠ 4 by decide)⟩, ⟨⟨show (3 : Nat) ≠ 4 by decide, Or.inr rfl⟩, trivial⟩⟩⟩⟩ rfl ?_
  refine j_aload_n (q := 4) hx (dc kX12_holds_0 2 rfl) rfl 2 rfl rfl ?_
  refine j_bipush (q := 6) (v := (84 : Int32)) hx (dc kX12_holds_0 3 rfl) (by decide) rfl ?_
  refine j_iload_n (q := 7) hx (dc kX12_holds_0 4 rfl) rfl 3 rfl rfl ?_
  refine j_iadd (q := 8) hx (dc kX12_holds_0 5 rfl) rfl ?_
  refine j_ldI (q := 9) hx (dc kX12_holds_0 6 rfl) rfl (fun v1 => ?_)
  refine j_istore (q := 11) (i := 5) (l2 := [(4, .int (0 : Int32)), (0, vR x.2.2.2 x0), (1, vR x.2.2.2 x1), (2, .int x2), (3, .int x3)]) hx (dc kX12_holds_0 7 rfl) (hn 5 (by decide)) [0, 1, 2, 3, 4] rfl ⟨⟨show (4 : Nat) ≠ 5 by decide, Or.inr rfl⟩, ⟨⟨show (0 : Nat) ≠ 5 by decide, Or.inl (show (0 : Nat) + 1 ≠ 5 by decide)⟩, ⟨⟨show (1 : Nat) ≠ 5 by decide, Or.inl (show (1 : Nat) + 1 ≠ 5 by decide)⟩, ⟨⟨show (2 : Nat) ≠ 5 by decide, Or.inl (show (2 : Nat) + 1 ≠ 5 by decide)⟩, ⟨⟨show (3 : Nat) ≠ 5 by decide, Or.inl (show (3 : Nat) + 1 ≠ 5 by decide)⟩, trivial⟩⟩⟩⟩⟩ rfl ?_
  exact j_sub [2, 3, 4, 5, 1, 0] rfl (hb11 x0 x1 x2 x3 (0 : Int32) v1 h)

set_option maxHeartbeats 4000000 in
set_option maxRecDepth 100000 in
theorem sX12_mayBe (l : Launch) (w : Wd) (x0 : Nat) (x1 : Nat) (x2 : Int32) (h : Hp) (u : (Int32 × Hp)) (hK : mX12_mayBe x0 x1 x2 h = some u) : M1 l w mi_X12_mayBe 2 [vR w x0, vR w x1, .int x2] h u.2 (some (.int u.1)) := by
  refine M1.of (own := RX12) (T := fun _ r => r = u) hK (by decide +kernel) rfl (by first | (simp only [lg_lenR, lg_lenI, lg_lenL, lg_len0]; decide) | decide) (fun x hx hnl hhf hl hw hret hnm hQ h0e => ⟨?_, rfl⟩)
  subst hw
  subst hl
  have hR : Rt x h u.2 (some (.int u.1)) ((some .boolean)) := ⟨h0e, hhf, hret, hQ⟩
  have hn : ∀ i, i < 4 → i < x.2.2.1.1.1 := fun i hi => by rw [hnl]; exact hi
  have e0 : lv_args 0 [vR x.2.2.2 x0, vR x.2.2.2 x1, .int x2] = [(0, vR x.2.2.2 x0), (1, vR x.2.2.2 x1), (2, .int x2)] := by simp only [lv_argsR, lv_argsI, lv_argsL, lv_args0]
  rw [e0]
  have hb2 : ∀ (x0 : Nat) (x1 : Nat) (x2 : Int32) (x3 : Int32) (h : Hp), J x 2 [(0, vR x.2.2.2 x0), (1, vR x.2.2.2 x1), (2, .int x2), (3, .int x3)] [] h (mX12_mayBe_l2 x0 x1 x2 x3 h) (fun r => r = u) := by
    intro x0 x1 x2 x3 h
    have hB : ∀ (x3 : Int32) (h : Hp), J x 2 [(0, vR x.2.2.2 x0), (1, vR x.2.2.2 x1), (2, .int x2), (3, .int x3)] [] h (mX12_mayBe_l2f x0 x1 x2 x3 h) (TL (S := (Int32 × Hp)) x 2 (fun s => [(0, vR x.2.2.2 x0), (1, vR x.2.2.2 x1), (2, .int x2), (3, .int s.1)]) [] (fun s => s.2) (fun r => r = u)) := by
      intro x3 h
      unfold mX12_mayBe_l2f
      refine j_iload_n (q := 3) hx (dc kX12_mayBe_0 2 rfl) rfl 3 rfl rfl ?_
      refine j_aload_n (q := 4) hx (dc kX12_mayBe_0 3 rfl) rfl 1 rfl rfl ?_
      refine j_iconst (q := 5) (v := (3 : Int32)) hx (dc kX12_mayBe_0 4 rfl) (by decide) rfl ?_
      refine j_ldI (q := 6) hx (dc kX12_mayBe_0 5 rfl) rfl (fun v1 => ?_)
      refine j_icmp_geS (q := 9) (tgt := 33) hx (dc kX12_mayBe_0 6 rfl) (by decide) rfl ?_ ?_
      · refine j_exit ?_
        refine j_iconst (q := 34) (v := (1 : Int32)) hx (dc kX12_mayBe_0 22 rfl) (by decide) rfl ?_
        exact r_cW hx (Or.inr rfl) hR (dc kX12_mayBe_0 23 rfl)
      · refine j_aload_n (q := 10) hx (dc kX12_mayBe_0 7 rfl) rfl 0 rfl rfl ?_
        refine j_aload_n (q := 11) hx (dc kX12_mayBe_0 8 rfl) rfl 1 rfl rfl ?_
        refine j_aload_n (q := 12) hx (dc kX12_mayBe_0 9 rfl) rfl 1 rfl rfl ?_
        refine j_bipush (q := 14) (v := (78 : Int32)) hx (dc kX12_mayBe_0 10 rfl) (by decide) rfl ?_
        refine j_iload_n (q := 15) hx (dc kX12_mayBe_0 11 rfl) rfl 3 rfl rfl ?_
        refine j_iadd (q := 16) hx (dc kX12_mayBe_0 12 rfl) rfl ?_
        refine j_ldI (q := 17) hx (dc kX12_mayBe_0 13 rfl) rfl (fun v2 => ?_)
        refine j_iload_n (q := 18) hx (dc kX12_mayBe_0 14 rfl) rfl 2 rfl rfl ?_
        refine w_cVIW (q := 21) (As := [vR x.2.2.2 x1, .int v2, .int x2]) (st := []) hx (dc kX12_mayBe_0 15 rfl) cf12 (by decide) rfl (cI _ my_X12_holds lm_X12_293 (by decide)) vs_X12_holds rfl (fun u hu => sX12_holds _ _ _ _ _ _ _ _ hu) (fun e => ite_ne (by unfold mX12_holds at e; exact e)) (Nat.zero_le _) rfl (fun v3 h4 => ?_)
        refine j_iconst (q := 22) (v := (1 : Int32)) hx (dc kX12_mayBe_0 16 rfl) (by decide) rfl ?_
        refine j_icmp_neS (q := 25) (tgt := 27) hx (dc kX12_mayBe_0 17 rfl) (by decide) rfl ?_ ?_
        · refine j_iinc (q := 30) (l2 := [(0, vR x.2.2.2 x0), (1, vR x.2.2.2 x1), (2, .int x2)]) hx (dc kX12_mayBe_0 20 rfl) 3 rfl (v := (1 : Int32)) (by decide) (hn 3 (by decide)) [0, 1, 2] rfl ⟨⟨show (0 : Nat) ≠ 3 by decide, Or.inl (show (0 : Nat) + 1 ≠ 3 by decide)⟩, ⟨⟨show (1 : Nat) ≠ 3 by decide, Or.inl (show (1 : Nat) + 1 ≠ 3 by decide)⟩, ⟨⟨show (2 : Nat) ≠ 3 by decide, Or.inr rfl⟩, trivial⟩⟩⟩ rfl ?_
          refine j_goto (q := 2) hx (dc kX12_mayBe_0 21 rfl) (by decide) ?_
          exact j_back [1, 2, 3, 0] ((x3 + (1 : Int32)), h4) rfl rfl
        · refine j_exit ?_
          refine j_iconst (q := 26) (v := (0 : Int32)) hx (dc kX12_mayBe_0 18 rfl) (by decide) rfl ?_
          exact r_cW hx (Or.inl rfl) hR (dc kX12_mayBe_0 19 rfl)
    exact j_loop (S := (Int32 × Hp)) (lvf := fun s => [(0, vR x.2.2.2 x0), (1, vR x.2.2.2 x1), (2, .int x2), (3, .int s.1)]) (hpf := fun s => s.2) (f := (fun s : (Int32 × Hp) => mX12_mayBe_l2f x0 x1 x2 s.1 s.2)) (fun s => hB s.1 s.2) (x3, h)
  unfold mX12_mayBe
  refine J.ckd fun hck => ?_
  refine j_iconst (q := 1) (v := (0 : Int32)) hx (dc kX12_mayBe_0 0 rfl) (by decide) rfl ?_
  refine j_istore_n (q := 2) (i := 3) (l2 := [(0, vR x.2.2.2 x0), (1, vR x.2.2.2 x1), (2, .int x2)]) hx (dc kX12_mayBe_0 1 rfl) rfl (hn 3 (by decide)) [0, 1, 2] rfl ⟨⟨show (0 : Nat) ≠ 3 by decide, Or.inl (show (0 : Nat) + 1 ≠ 3 by decide)⟩, ⟨⟨show (1 : Nat) ≠ 3 by decide, Or.inl (show (1 : Nat) + 1 ≠ 3 by decide)⟩, ⟨⟨show (2 : Nat) ≠ 3 by decide, Or.inr rfl⟩, trivial⟩⟩⟩ rfl ?_
  exact j_sub [1, 2, 3, 0] rfl (hb2 x0 x1 x2 (0 : Int32) h)

set_option maxHeartbeats 4000000 in
set_option maxRecDepth 100000 in
theorem sX12_adds (l : Launch) (w : Wd) (x0 : Nat) (x1 : Int32) (x2 : Int32) (x3 : Int32) (h : Hp) (u : Hp) (hK : mX12_adds x0 x1 x2 x3 h = some u) : M1 l w mi_X12_adds 1 [vR w x0, .int x1, .int x2, .int x3] h u (none) := by
  refine M1.of (own := RX12) (T := fun _ r => r = u) hK (by decide +kernel) rfl (by first | (simp only [lg_lenR, lg_lenI, lg_lenL, lg_len0]; decide) | decide) (fun x hx hnl hhf hl hw hret hnm hQ h0e => ⟨?_, rfl⟩)
  subst hw
  subst hl
  have hR : Rt x h u (none) (none) := ⟨h0e, hhf, hret, hQ⟩
  have hn : ∀ i, i < 4 → i < x.2.2.1.1.1 := fun i hi => by rw [hnl]; exact hi
  have e0 : lv_args 0 [vR x.2.2.2 x0, .int x1, .int x2, .int x3] = [(0, vR x.2.2.2 x0), (1, .int x1), (2, .int x2), (3, .int x3)] := by simp only [lv_argsR, lv_argsI, lv_argsL, lv_args0]
  rw [e0]
  unfold mX12_adds
  refine j_iload_n (q := 1) hx (dc kX12_adds_0 0 rfl) rfl 3 rfl rfl ?_
  refine j_if_eq (q := 4) (tgt := 23) hx (dc kX12_adds_0 1 rfl) (by decide) Iff.rfl rfl ?_ ?_
  · exact r_vW hx hR (dc kX12_adds_0 19 rfl)
  · refine j_aload_n (q := 5) hx (dc kX12_adds_0 2 rfl) rfl 0 rfl rfl ?_
    refine j_bipush (q := 7) (v := (8 : Int32)) hx (dc kX12_adds_0 3 rfl) (by decide) rfl ?_
    refine j_iload_n (q := 8) hx (dc kX12_adds_0 4 rfl) rfl 1 rfl rfl ?_
    refine j_imul (q := 9) hx (dc kX12_adds_0 5 rfl) rfl ?_
    refine j_iload_n (q := 10) hx (dc kX12_adds_0 6 rfl) rfl 2 rfl rfl ?_
    refine j_iconst (q := 11) (v := (5 : Int32)) hx (dc kX12_adds_0 7 rfl) (by decide) rfl ?_
    refine j_ishr (q := 12) hx (dc kX12_adds_0 8 rfl) rfl ?_
    refine j_iadd (q := 13) hx (dc kX12_adds_0 9 rfl) rfl ?_
    refine j_dup2_11 (q := 14) hx (dc kX12_adds_0 10 rfl) rfl (vR_cat _ _) rfl ?_
    refine j_ldI (q := 15) hx (dc kX12_adds_0 11 rfl) rfl (fun v1 => ?_)
    refine j_iconst (q := 16) (v := (1 : Int32)) hx (dc kX12_adds_0 12 rfl) (by decide) rfl ?_
    refine j_iload_n (q := 17) hx (dc kX12_adds_0 13 rfl) rfl 2 rfl rfl ?_
    refine j_bipush (q := 19) (v := (31 : Int32)) hx (dc kX12_adds_0 14 rfl) (by decide) rfl ?_
    refine j_iand (q := 20) hx (dc kX12_adds_0 15 rfl) rfl ?_
    refine j_ishl (q := 21) hx (dc kX12_adds_0 16 rfl) rfl ?_
    refine j_ior (q := 22) hx (dc kX12_adds_0 17 rfl) rfl ?_
    refine w_stI (q := 23) hx (dc kX12_adds_0 18 rfl) rfl (fun h2 => ?_)
    exact r_vW hx hR (dc kX12_adds_0 19 rfl)

set_option maxHeartbeats 4000000 in
set_option maxRecDepth 100000 in
theorem sX12_isIn (l : Launch) (w : Wd) (x0 : Nat) (x1 : Int32) (x2 : Int32) (h : Hp) (u : Int32) (hK : mX12_isIn x0 x1 x2 h = some u) : M1 l w mi_X12_isIn 1 [vR w x0, .int x1, .int x2] h h (some (.int u)) := by
  refine M1.of (own := RX12) (T := fun _ r => r = u) hK (by decide +kernel) rfl (by first | (simp only [lg_lenR, lg_lenI, lg_lenL, lg_len0]; decide) | decide) (fun x hx hnl hhf hl hw hret hnm hQ h0e => ⟨?_, rfl⟩)
  subst hw
  subst hl
  have hR : Rt x h h (some (.int u)) ((some .boolean)) := ⟨h0e, hhf, hret, hQ⟩
  have hn : ∀ i, i < 3 → i < x.2.2.1.1.1 := fun i hi => by rw [hnl]; exact hi
  have e0 : lv_args 0 [vR x.2.2.2 x0, .int x1, .int x2] = [(0, vR x.2.2.2 x0), (1, .int x1), (2, .int x2)] := by simp only [lv_argsR, lv_argsI, lv_argsL, lv_args0]
  rw [e0]
  unfold mX12_isIn
  refine j_aload_n (q := 1) hx (dc kX12_isIn_0 0 rfl) rfl 0 rfl rfl ?_
  refine j_bipush (q := 3) (v := (8 : Int32)) hx (dc kX12_isIn_0 1 rfl) (by decide) rfl ?_
  refine j_iload_n (q := 4) hx (dc kX12_isIn_0 2 rfl) rfl 1 rfl rfl ?_
  refine j_imul (q := 5) hx (dc kX12_isIn_0 3 rfl) rfl ?_
  refine j_iload_n (q := 6) hx (dc kX12_isIn_0 4 rfl) rfl 2 rfl rfl ?_
  refine j_iconst (q := 7) (v := (5 : Int32)) hx (dc kX12_isIn_0 5 rfl) (by decide) rfl ?_
  refine j_ishr (q := 8) hx (dc kX12_isIn_0 6 rfl) rfl ?_
  refine j_iadd (q := 9) hx (dc kX12_isIn_0 7 rfl) rfl ?_
  refine j_ldI (q := 10) hx (dc kX12_isIn_0 8 rfl) rfl (fun v1 => ?_)
  refine j_iload_n (q := 11) hx (dc kX12_isIn_0 9 rfl) rfl 2 rfl rfl ?_
  refine j_bipush (q := 13) (v := (31 : Int32)) hx (dc kX12_isIn_0 10 rfl) (by decide) rfl ?_
  refine j_iand (q := 14) hx (dc kX12_isIn_0 11 rfl) rfl ?_
  refine j_iushr (q := 15) hx (dc kX12_isIn_0 12 rfl) rfl ?_
  refine j_iconst (q := 16) (v := (1 : Int32)) hx (dc kX12_isIn_0 13 rfl) (by decide) rfl ?_
  refine j_iand (q := 17) hx (dc kX12_isIn_0 14 rfl) rfl ?_
  refine j_iconst (q := 18) (v := (1 : Int32)) hx (dc kX12_isIn_0 15 rfl) (by decide) rfl ?_
  refine j_icmp_neS (q := 21) (tgt := 25) hx (dc kX12_isIn_0 16 rfl) (by decide) rfl ?_ ?_
  · refine j_iconst (q := 26) (v := (0 : Int32)) hx (dc kX12_isIn_0 19 rfl) (by decide) rfl ?_
    exact r_cR hx (Or.inl rfl) hR (dc kX12_isIn_0 20 rfl)
  · refine j_iconst (q := 22) (v := (1 : Int32)) hx (dc kX12_isIn_0 17 rfl) (by decide) rfl ?_
    refine j_goto (q := 26) hx (dc kX12_isIn_0 18 rfl) (by decide) ?_
    exact r_cR hx (Or.inr rfl) hR (dc kX12_isIn_0 20 rfl)

set_option maxHeartbeats 4000000 in
set_option maxRecDepth 100000 in
theorem sX12_isWonTold (l : Launch) (w : Wd) (x0 : Nat) (x1 : Int32) (x2 : Int32) (h : Hp) (u : Int32) (hK : mX12_isWonTold x0 x1 x2 h = some u) : M1 l w mi_X12_isWonTold 2 [vR w x0, .int x1, .int x2] h h (some (.int u)) := by
  refine M1.of (own := RX12) (T := fun _ r => r = u) hK (by decide +kernel) rfl (by first | (simp only [lg_lenR, lg_lenI, lg_lenL, lg_len0]; decide) | decide) (fun x hx hnl hhf hl hw hret hnm hQ h0e => ⟨?_, rfl⟩)
  subst hw
  subst hl
  have hR : Rt x h h (some (.int u)) ((some .boolean)) := ⟨h0e, hhf, hret, hQ⟩
  have hn : ∀ i, i < 4 → i < x.2.2.1.1.1 := fun i hi => by rw [hnl]; exact hi
  have e0 : lv_args 0 [vR x.2.2.2 x0, .int x1, .int x2] = [(0, vR x.2.2.2 x0), (1, .int x1), (2, .int x2)] := by simp only [lv_argsR, lv_argsI, lv_argsL, lv_args0]
  rw [e0]
  have hb49 : ∀ (x0 : Nat) (x1 : Int32) (x2 : Int32) (x3 : Int32), J x 49 [(0, vR x.2.2.2 x0), (1, .int x1), (2, .int x2), (3, .int x3)] [] h (mX12_isWonTold_l49 x0 x1 x2 x3 h) (fun r => r = u) := by
    intro x0 x1 x2 x3
    have hB : ∀ (x3 : Int32), J x 49 [(0, vR x.2.2.2 x0), (1, .int x1), (2, .int x2), (3, .int x3)] [] h (mX12_isWonTold_l49f x0 x1 x2 h x3) (TL (S := Int32) x 49 (fun s => [(0, vR x.2.2.2 x0), (1, .int x1), (2, .int x2), (3, .int s)]) [] (fun s => h) (fun r => r = u)) := by
      intro x3
      have hb94 : ∀ (x0 : Nat) (x1 : Int32) (x2 : Int32) (x3 : Int32), J x 94 [(0, vR x.2.2.2 x0), (1, .int x1), (2, .int x2), (3, .int x3)] [] h (mX12_isWonTold_b94 x0 x1 x2 x3 h) (TL (S := Int32) x 49 (fun s => [(0, vR x.2.2.2 x0), (1, .int x1), (2, .int x2), (3, .int s)]) [] (fun s => h) (fun r => r = u)) := by
        intro x0 x1 x2 x3
        unfold mX12_isWonTold_b94
        refine j_iinc (q := 97) (l2 := [(0, vR x.2.2.2 x0), (1, .int x1), (2, .int x2)]) hx (dc kX12_isWonTold_0 58 rfl) 3 rfl (v := (1 : Int32)) (by decide) (hn 3 (by decide)) [0, 1, 2] rfl ⟨⟨show (0 : Nat) ≠ 3 by decide, Or.inl (show (0 : Nat) + 1 ≠ 3 by decide)⟩, ⟨⟨show (1 : Nat) ≠ 3 by decide, Or.inl (show (1 : Nat) + 1 ≠ 3 by decide)⟩, ⟨⟨show (2 : Nat) ≠ 3 by decide, Or.inr rfl⟩, trivial⟩⟩⟩ rfl ?_
        refine j_goto (q := 49) hx (dc kX12_isWonTold_0 59 rfl) (by decide) ?_
        exact j_back [1, 2, 3, 0] (x3 + (1 : Int32)) rfl rfl
      unfold mX12_isWonTold_l49f
      refine j_iload_n (q := 50) hx (dc kX12_isWonTold_0 31 rfl) rfl 3 rfl rfl ?_
      refine j_aload_n (q := 51) hx (dc kX12_isWonTold_0 32 rfl) rfl 0 rfl rfl ?_
      refine w_gR (q := 54) hx (dc kX12_isWonTold_0 33 rfl) ff_X12_0 lk_X12_7 rfl (fun v3 => ?_)
      refine j_iconst (q := 55) (v := (4 : Int32)) hx (dc kX12_isWonTold_0 34 rfl) (by decide) rfl ?_
      refine j_ldI (q := 56) hx (dc kX12_isWonTold_0 35 rfl) rfl (fun v4 => ?_)
      refine j_icmp_geS (q := 59) (tgt := 100) hx (dc kX12_isWonTold_0 36 rfl) (by decide) rfl ?_ ?_
      · refine j_exit ?_
        refine j_iconst (q := 101) (v := (1 : Int32)) hx (dc kX12_isWonTold_0 60 rfl) (by decide) rfl ?_
        exact r_cR hx (Or.inr rfl) hR (dc kX12_isWonTold_0 61 rfl)
      · refine j_aload_n (q := 60) hx (dc kX12_isWonTold_0 37 rfl) rfl 0 rfl rfl ?_
        refine w_gR (q := 63) hx (dc kX12_isWonTold_0 38 rfl) ff_X12_0 lk_X12_7 rfl (fun v5 => ?_)
        refine j_bipush (q := 65) (v := (66 : Int32)) hx (dc kX12_isWonTold_0 39 rfl) (by decide) rfl ?_
        refine j_iload_n (q := 66) hx (dc kX12_isWonTold_0 40 rfl) rfl 3 rfl rfl ?_
        refine j_iadd (q := 67) hx (dc kX12_isWonTold_0 41 rfl) rfl ?_
        refine j_ldI (q := 68) hx (dc kX12_isWonTold_0 42 rfl) rfl (fun v6 => ?_)
        refine j_iload_n (q := 69) hx (dc kX12_isWonTold_0 43 rfl) rfl 1 rfl rfl ?_
        refine j_icmp_neS (q := 72) (tgt := 94) hx (dc kX12_isWonTold_0 44 rfl) (by decide) rfl ?_ ?_
        · exact hb94 x0 x1 x2 x3
        · refine j_aload_n (q := 73) hx (dc kX12_isWonTold_0 45 rfl) rfl 0 rfl rfl ?_
          refine w_gR (q := 76) hx (dc kX12_isWonTold_0 46 rfl) ff_X12_25 lk_X12_49 rfl (fun v7 => ?_)
          refine j_aload_n (q := 77) hx (dc kX12_isWonTold_0 47 rfl) rfl 0 rfl rfl ?_
          refine w_gR (q := 80) hx (dc kX12_isWonTold_0 48 rfl) ff_X12_0 lk_X12_7 rfl (fun v8 => ?_)
          refine j_bipush (q := 82) (v := (72 : Int32)) hx (dc kX12_isWonTold_0 49 rfl) (by decide) rfl ?_
          refine j_iload_n (q := 83) hx (dc kX12_isWonTold_0 50 rfl) rfl 3 rfl rfl ?_
          refine j_iadd (q := 84) hx (dc kX12_isWonTold_0 51 rfl) rfl ?_
          refine j_ldI (q := 85) hx (dc kX12_isWonTold_0 52 rfl) rfl (fun v9 => ?_)
          refine j_iload_n (q := 86) hx (dc kX12_isWonTold_0 53 rfl) rfl 2 rfl rfl ?_
          refine w_cSIR (q := 89) (As := [vR x.2.2.2 v7, .int v9, .int x2]) (st := []) hx (dc kX12_isWonTold_0 54 rfl) (cI _ my_X12_isIn lm_X12_311 (by decide)) st_X12_isIn rfl (fun u hu => sX12_isIn _ _ _ _ _ _ _ hu) (Nat.zero_le _) rfl (fun v10 => ?_)
          refine j_if_eq (q := 92) (tgt := 94) hx (dc kX12_isWonTold_0 55 rfl) (by decide) Iff.rfl rfl ?_ ?_
          · exact hb94 x0 x1 x2 x3
          · refine j_exit ?_
            refine j_iconst (q := 93) (v := (0 : Int32)) hx (dc kX12_isWonTold_0 56 rfl) (by decide) rfl ?_
            exact r_cR hx (Or.inl rfl) hR (dc kX12_isWonTold_0 57 rfl)
    exact j_loop (S := Int32) (lvf := fun s => [(0, vR x.2.2.2 x0), (1, .int x1), (2, .int x2), (3, .int s)]) (hpf := fun s => h) (f := (fun s : Int32 => mX12_isWonTold_l49f x0 x1 x2 h s)) (fun s => hB s) x3
  have hb2 : ∀ (x0 : Nat) (x1 : Int32) (x2 : Int32) (x3 : Int32), J x 2 [(0, vR x.2.2.2 x0), (1, .int x1), (2, .int x2), (3, .int x3)] [] h (mX12_isWonTold_l2 x0 x1 x2 x3 h) (fun r => r = u) := by
    intro x0 x1 x2 x3
    have hB : ∀ (x3 : Int32), J x 2 [(0, vR x.2.2.2 x0), (1, .int x1), (2, .int x2), (3, .int x3)] [] h (mX12_isWonTold_l2f x0 x1 x2 h x3) (TL (S := Int32) x 2 (fun s => [(0, vR x.2.2.2 x0), (1, .int x1), (2, .int x2), (3, .int s)]) [] (fun s => h) (fun r => r = u)) := by
      intro x3
      unfold mX12_isWonTold_l2f
      refine j_iload_n (q := 3) hx (dc kX12_isWonTold_0 2 rfl) rfl 3 rfl rfl ?_
      refine j_aload_n (q := 4) hx (dc kX12_isWonTold_0 3 rfl) rfl 0 rfl rfl ?_
      refine w_gR (q := 7) hx (dc kX12_isWonTold_0 4 rfl) ff_X12_0 lk_X12_7 rfl (fun v1 => ?_)
      refine j_bipush (q := 9) (v := (26 : Int32)) hx (dc kX12_isWonTold_0 5 rfl) (by decide) rfl ?_
      refine j_iload_n (q := 10) hx (dc kX12_isWonTold_0 6 rfl) rfl 1 rfl rfl ?_
      refine j_iadd (q := 11) hx (dc kX12_isWonTold_0 7 rfl) rfl ?_
      refine j_ldI (q := 12) hx (dc kX12_isWonTold_0 8 rfl) rfl (fun v2 => ?_)
      refine j_icmp_geS (q := 15) (tgt := 47) hx (dc kX12_isWonTold_0 9 rfl) (by decide) rfl ?_ ?_
      · refine j_exit ?_
        refine j_iconst (q := 48) (v := (0 : Int32)) hx (dc kX12_isWonTold_0 29 rfl) (by decide) rfl ?_
        refine j_istore_n (q := 49) (i := 3) (l2 := [(0, vR x.2.2.2 x0), (1, .int x1), (2, .int x2)]) hx (dc kX12_isWonTold_0 30 rfl) rfl (hn 3 (by decide)) [0, 1, 2] rfl ⟨⟨show (0 : Nat) ≠ 3 by decide, Or.inl (show (0 : Nat) + 1 ≠ 3 by decide)⟩, ⟨⟨show (1 : Nat) ≠ 3 by decide, Or.inl (show (1 : Nat) + 1 ≠ 3 by decide)⟩, ⟨⟨show (2 : Nat) ≠ 3 by decide, Or.inr rfl⟩, trivial⟩⟩⟩ rfl ?_
        exact j_sub [1, 2, 3, 0] rfl (hb49 x0 x1 x2 (0 : Int32))
      · refine j_aload_n (q := 16) hx (dc kX12_isWonTold_0 10 rfl) rfl 0 rfl rfl ?_
        refine w_gR (q := 19) hx (dc kX12_isWonTold_0 11 rfl) ff_X12_25 lk_X12_49 rfl (fun v12 => ?_)
        refine j_aload_n (q := 20) hx (dc kX12_isWonTold_0 12 rfl) rfl 0 rfl rfl ?_
        refine w_gR (q := 23) hx (dc kX12_isWonTold_0 13 rfl) ff_X12_0 lk_X12_7 rfl (fun v13 => ?_)
        refine j_bipush (q := 25) (v := (31 : Int32)) hx (dc kX12_isWonTold_0 14 rfl) (by decide) rfl ?_
        refine j_iconst (q := 26) (v := (4 : Int32)) hx (dc kX12_isWonTold_0 15 rfl) (by decide) rfl ?_
        refine j_iload_n (q := 27) hx (dc kX12_isWonTold_0 16 rfl) rfl 1 rfl rfl ?_
        refine j_imul (q := 28) hx (dc kX12_isWonTold_0 17 rfl) rfl ?_
        refine j_iadd (q := 29) hx (dc kX12_isWonTold_0 18 rfl) rfl ?_
        refine j_iload_n (q := 30) hx (dc kX12_isWonTold_0 19 rfl) rfl 3 rfl rfl ?_
        refine j_iadd (q := 31) hx (dc kX12_isWonTold_0 20 rfl) rfl ?_
        refine j_ldI (q := 32) hx (dc kX12_isWonTold_0 21 rfl) rfl (fun v14 => ?_)
        refine j_iload_n (q := 33) hx (dc kX12_isWonTold_0 22 rfl) rfl 2 rfl rfl ?_
        refine w_cSIR (q := 36) (As := [vR x.2.2.2 v12, .int v14, .int x2]) (st := []) hx (dc kX12_isWonTold_0 23 rfl) (cI _ my_X12_isIn lm_X12_311 (by decide)) st_X12_isIn rfl (fun u hu => sX12_isIn _ _ _ _ _ _ _ hu) (Nat.zero_le _) rfl (fun v15 => ?_)
        refine j_if_neS (q := 39) (tgt := 41) hx (dc kX12_isWonTold_0 24 rfl) (by decide) rfl ?_ ?_
        · refine j_iinc (q := 44) (l2 := [(0, vR x.2.2.2 x0), (1, .int x1), (2, .int x2)]) hx (dc kX12_isWonTold_0 27 rfl) 3 rfl (v := (1 : Int32)) (by decide) (hn 3 (by decide)) [0, 1, 2] rfl ⟨⟨show (0 : Nat) ≠ 3 by decide, Or.inl (show (0 : Nat) + 1 ≠ 3 by decide)⟩, ⟨⟨show (1 : Nat) ≠ 3 by decide, Or.inl (show (1 : Nat) + 1 ≠ 3 by decide)⟩, ⟨⟨show (2 : Nat) ≠ 3 by decide, Or.inr rfl⟩, trivial⟩⟩⟩ rfl ?_
          refine j_goto (q := 2) hx (dc kX12_isWonTold_0 28 rfl) (by decide) ?_
          exact j_back [1, 2, 3, 0] (x3 + (1 : Int32)) rfl rfl
        · refine j_exit ?_
          refine j_iconst (q := 40) (v := (0 : Int32)) hx (dc kX12_isWonTold_0 25 rfl) (by decide) rfl ?_
          exact r_cR hx (Or.inl rfl) hR (dc kX12_isWonTold_0 26 rfl)
    exact j_loop (S := Int32) (lvf := fun s => [(0, vR x.2.2.2 x0), (1, .int x1), (2, .int x2), (3, .int s)]) (hpf := fun s => h) (f := (fun s : Int32 => mX12_isWonTold_l2f x0 x1 x2 h s)) (fun s => hB s) x3
  unfold mX12_isWonTold
  refine J.ckd fun hck => ?_
  refine j_iconst (q := 1) (v := (0 : Int32)) hx (dc kX12_isWonTold_0 0 rfl) (by decide) rfl ?_
  refine j_istore_n (q := 2) (i := 3) (l2 := [(0, vR x.2.2.2 x0), (1, .int x1), (2, .int x2)]) hx (dc kX12_isWonTold_0 1 rfl) rfl (hn 3 (by decide)) [0, 1, 2] rfl ⟨⟨show (0 : Nat) ≠ 3 by decide, Or.inl (show (0 : Nat) + 1 ≠ 3 by decide)⟩, ⟨⟨show (1 : Nat) ≠ 3 by decide, Or.inl (show (1 : Nat) + 1 ≠ 3 by decide)⟩, ⟨⟨show (2 : Nat) ≠ 3 by decide, Or.inr rfl⟩, trivial⟩⟩⟩ rfl ?_
  exact j_sub [1, 2, 3, 0] rfl (hb2 x0 x1 x2 (0 : Int32))

set_option maxHeartbeats 4000000 in
set_option maxRecDepth 100000 in
theorem sX12_isKnown (l : Launch) (w : Wd) (x0 : Nat) (x1 : Int32) (h : Hp) (u : Int32) (hK : mX12_isKnown x0 x1 h = some u) : M1 l w mi_X12_isKnown 1 [vR w x0, .int x1] h h (some (.int u)) := by
  refine M1.of (own := RX12) (T := fun _ r => r = u) hK (by decide +kernel) rfl (by first | (simp only [lg_lenR, lg_lenI, lg_lenL, lg_len0]; decide) | decide) (fun x hx hnl hhf hl hw hret hnm hQ h0e => ⟨?_, rfl⟩)
  subst hw
  subst hl
  have hR : Rt x h h (some (.int u)) ((some .boolean)) := ⟨h0e, hhf, hret, hQ⟩
  have hn : ∀ i, i < 2 → i < x.2.2.1.1.1 := fun i hi => by rw [hnl]; exact hi
  have e0 : lv_args 0 [vR x.2.2.2 x0, .int x1] = [(0, vR x.2.2.2 x0), (1, .int x1)] := by simp only [lv_argsR, lv_argsI, lv_argsL, lv_args0]
  rw [e0]
  unfold mX12_isKnown
  refine J.ckd fun hck => ?_
  refine j_aload_n (q := 1) hx (dc kX12_isKnown_0 0 rfl) rfl 0 rfl rfl ?_
  refine w_gR (q := 4) hx (dc kX12_isKnown_0 1 rfl) ff_X12_4 lk_X12_23 rfl (fun v1 => ?_)
  refine j_iconst (q := 5) (v := (0 : Int32)) hx (dc kX12_isKnown_0 2 rfl) (by decide) rfl ?_
  refine j_iload_n (q := 6) hx (dc kX12_isKnown_0 3 rfl) rfl 1 rfl rfl ?_
  refine j_iadd (q := 7) hx (dc kX12_isKnown_0 4 rfl) rfl ?_
  refine j_ldI (q := 8) hx (dc kX12_isKnown_0 5 rfl) rfl (fun v2 => ?_)
  refine j_iconst (q := 9) (v := (1 : Int32)) hx (dc kX12_isKnown_0 6 rfl) (by decide) rfl ?_
  refine j_icmp_eq (q := 12) (tgt := 24) hx (dc kX12_isKnown_0 7 rfl) (by decide) Iff.rfl rfl ?_ ?_
  · refine j_iconst (q := 25) (v := (1 : Int32)) hx (dc kX12_isKnown_0 16 rfl) (by decide) rfl ?_
    refine j_goto (q := 29) hx (dc kX12_isKnown_0 17 rfl) (by decide) ?_
    exact r_cR hx (Or.inr rfl) hR (dc kX12_isKnown_0 19 rfl)
  · refine j_aload_n (q := 13) hx (dc kX12_isKnown_0 8 rfl) rfl 0 rfl rfl ?_
    refine w_gR (q := 16) hx (dc kX12_isKnown_0 9 rfl) ff_X12_4 lk_X12_23 rfl (fun v3 => ?_)
    refine j_iconst (q := 17) (v := (0 : Int32)) hx (dc kX12_isKnown_0 10 rfl) (by decide) rfl ?_
    refine j_iload_n (q := 18) hx (dc kX12_isKnown_0 11 rfl) rfl 1 rfl rfl ?_
    refine j_iadd (q := 19) hx (dc kX12_isKnown_0 12 rfl) rfl ?_
    refine j_ldI (q := 20) hx (dc kX12_isKnown_0 13 rfl) rfl (fun v4 => ?_)
    refine j_iconst (q := 21) (v := (4 : Int32)) hx (dc kX12_isKnown_0 14 rfl) (by decide) rfl ?_
    refine j_icmp_neS (q := 24) (tgt := 28) hx (dc kX12_isKnown_0 15 rfl) (by decide) rfl ?_ ?_
    · refine j_iconst (q := 29) (v := (0 : Int32)) hx (dc kX12_isKnown_0 18 rfl) (by decide) rfl ?_
      exact r_cR hx (Or.inl rfl) hR (dc kX12_isKnown_0 19 rfl)
    · refine j_iconst (q := 25) (v := (1 : Int32)) hx (dc kX12_isKnown_0 16 rfl) (by decide) rfl ?_
      refine j_goto (q := 29) hx (dc kX12_isKnown_0 17 rfl) (by decide) ?_
      exact r_cR hx (Or.inr rfl) hR (dc kX12_isKnown_0 19 rfl)

set_option maxHeartbeats 4000000 in
set_option maxRecDepth 100000 in
theorem sX12_knownFacts (l : Launch) (w : Wd) (x0 : Nat) (h : Hp) (u : Int32) (hK : mX12_knownFacts x0 h = some u) : M1 l w mi_X12_knownFacts 2 [vR w x0] h h (some (.int u)) := by
  refine M1.of (own := RX12) (T := fun _ r => r = u) hK (by decide +kernel) rfl (by first | (simp only [lg_lenR, lg_lenI, lg_lenL, lg_len0]; decide) | decide) (fun x hx hnl hhf hl hw hret hnm hQ h0e => ⟨?_, rfl⟩)
  subst hw
  subst hl
  have hR : Rt x h h (some (.int u)) ((some .int)) := ⟨h0e, hhf, hret, hQ⟩
  have hn : ∀ i, i < 3 → i < x.2.2.1.1.1 := fun i hi => by rw [hnl]; exact hi
  have e0 : lv_args 0 [vR x.2.2.2 x0] = [(0, vR x.2.2.2 x0)] := by simp only [lv_argsR, lv_argsI, lv_argsL, lv_args0]
  rw [e0]
  have hb4 : ∀ (x0 : Nat) (x1 : Int32) (x2 : Int32), J x 4 [(0, vR x.2.2.2 x0), (1, .int x1), (2, .int x2)] [] h (mX12_knownFacts_l4 x0 x1 x2 h) (fun r => r = u) := by
    intro x0 x1 x2
    have hB : ∀ (x1 : Int32) (x2 : Int32), J x 4 [(0, vR x.2.2.2 x0), (1, .int x1), (2, .int x2)] [] h (mX12_knownFacts_l4f x0 h x1 x2) (TL (S := (Int32 × Int32)) x 4 (fun s => [(0, vR x.2.2.2 x0), (1, .int s.1), (2, .int s.2)]) [] (fun s => h) (fun r => r = u)) := by
      intro x1 x2
      have hb26 : ∀ (x0 : Nat) (x2 : Int32) (t0 : Int32) (t1 : Int32), J x 26 [(0, vR x.2.2.2 x0), (2, .int x2)] [.int t1, .int t0] h (mX12_knownFacts_b26 x0 x2 t0 t1 h) (TL (S := (Int32 × Int32)) x 4 (fun s => [(0, vR x.2.2.2 x0), (1, .int s.1), (2, .int s.2)]) [] (fun s => h) (fun r => r = u)) := by
        intro x0 x2 t0 t1
        unfold mX12_knownFacts_b26
        refine j_ior (q := 27) hx (dc kX12_knownFacts_0 17 rfl) rfl ?_
        refine j_istore_n (q := 28) (i := 1) (l2 := [(0, vR x.2.2.2 x0), (2, .int x2)]) hx (dc kX12_knownFacts_0 18 rfl) rfl (hn 1 (by decide)) [0, 1] rfl ⟨⟨show (0 : Nat) ≠ 1 by decide, Or.inr (vR_cat _ _)⟩, ⟨⟨show (2 : Nat) ≠ 1 by decide, Or.inl (show (2 : Nat) + 1 ≠ 1 by decide)⟩, trivial⟩⟩ rfl ?_
        refine j_iinc (q := 31) (l2 := [(1, .int (t0 ||| t1)), (0, vR x.2.2.2 x0)]) hx (dc kX12_knownFacts_0 19 rfl) 2 rfl (v := (1 : Int32)) (by decide) (hn 2 (by decide)) [0, 1] rfl ⟨⟨show (1 : Nat) ≠ 2 by decide, Or.inr rfl⟩, ⟨⟨show (0 : Nat) ≠ 2 by decide, Or.inl (show (0 : Nat) + 1 ≠ 2 by decide)⟩, trivial⟩⟩ rfl ?_
        refine j_goto (q := 4) hx (dc kX12_knownFacts_0 20 rfl) (by decide) ?_
        exact j_back [2, 1, 0] ((t0 ||| t1), (x2 + (1 : Int32))) rfl rfl
      unfold mX12_knownFacts_l4f
      refine j_iload_n (q := 5) hx (dc kX12_knownFacts_0 4 rfl) rfl 2 rfl rfl ?_
      refine j_bipush (q := 7) (v := (8 : Int32)) hx (dc kX12_knownFacts_0 5 rfl) (by decide) rfl ?_
      refine j_icmp_geS (q := 10) (tgt := 34) hx (dc kX12_knownFacts_0 6 rfl) (by decide) rfl ?_ ?_
      · refine j_exit ?_
        refine j_iload_n (q := 35) hx (dc kX12_knownFacts_0 21 rfl) rfl 1 rfl rfl ?_
        exact r_iR hx hR (dc kX12_knownFacts_0 22 rfl)
      · refine j_iload_n (q := 11) hx (dc kX12_knownFacts_0 7 rfl) rfl 1 rfl rfl ?_
        refine j_aload_n (q := 12) hx (dc kX12_knownFacts_0 8 rfl) rfl 0 rfl rfl ?_
        refine j_iload_n (q := 13) hx (dc kX12_knownFacts_0 9 rfl) rfl 2 rfl rfl ?_
        refine w_cVIR (q := 16) (As := [.int x2]) (st := [.int x1]) hx (dc kX12_knownFacts_0 10 rfl) cf12 (by decide) rfl (cI _ my_X12_isKnown lm_X12_326 (by decide)) vs_X12_isKnown rfl (fun u hu => sX12_isKnown _ _ _ _ _ _ hu) (fun e => ite_ne (by unfold mX12_isKnown at e; exact e)) (sum_le (sum_I sum_nil) (by decide)) rfl (fun v1 => ?_)
        refine j_if_eq (q := 19) (tgt := 25) hx (dc kX12_knownFacts_0 11 rfl) (by decide) Iff.rfl rfl ?_ ?_
        · refine j_iconst (q := 26) (v := (0 : Int32)) hx (dc kX12_knownFacts_0 16 rfl) (by decide) rfl ?_
          exact j_sub [0, 2] rfl (hb26 x0 x2 x1 (0 : Int32))
        · refine j_iconst (q := 20) (v := (1 : Int32)) hx (dc kX12_knownFacts_0 12 rfl) (by decide) rfl ?_
          refine j_iload_n (q := 21) hx (dc kX12_knownFacts_0 13 rfl) rfl 2 rfl rfl ?_
          refine j_ishl (q := 22) hx (dc kX12_knownFacts_0 14 rfl) rfl ?_
          refine j_goto (q := 26) hx (dc kX12_knownFacts_0 15 rfl) (by decide) ?_
          exact j_sub [0, 2] rfl (hb26 x0 x2 x1 ((1 : Int32) <<< (x2 &&& 31)))
    exact j_loop (S := (Int32 × Int32)) (lvf := fun s => [(0, vR x.2.2.2 x0), (1, .int s.1), (2, .int s.2)]) (hpf := fun s => h) (f := (fun s : (Int32 × Int32) => mX12_knownFacts_l4f x0 h s.1 s.2)) (fun s => hB s.1 s.2) (x1, x2)
  unfold mX12_knownFacts
  refine J.ckd fun hck => ?_
  refine j_iconst (q := 1) (v := (0 : Int32)) hx (dc kX12_knownFacts_0 0 rfl) (by decide) rfl ?_
  refine j_istore_n (q := 2) (i := 1) (l2 := [(0, vR x.2.2.2 x0)]) hx (dc kX12_knownFacts_0 1 rfl) rfl (hn 1 (by decide)) [0] rfl ⟨⟨show (0 : Nat) ≠ 1 by decide, Or.inr (vR_cat _ _)⟩, trivial⟩ rfl ?_
  refine j_iconst (q := 3) (v := (0 : Int32)) hx (dc kX12_knownFacts_0 2 rfl) (by decide) rfl ?_
  refine j_istore_n (q := 4) (i := 2) (l2 := [(1, .int (0 : Int32)), (0, vR x.2.2.2 x0)]) hx (dc kX12_knownFacts_0 3 rfl) rfl (hn 2 (by decide)) [0, 1] rfl ⟨⟨show (1 : Nat) ≠ 2 by decide, Or.inr rfl⟩, ⟨⟨show (0 : Nat) ≠ 2 by decide, Or.inl (show (0 : Nat) + 1 ≠ 2 by decide)⟩, trivial⟩⟩ rfl ?_
  exact j_sub [2, 1, 0] rfl (hb4 x0 (0 : Int32) (0 : Int32))

set_option maxHeartbeats 4000000 in
set_option maxRecDepth 100000 in
theorem sX12_knownSo (l : Launch) (w : Wd) (x0 : Nat) (h : Hp) (u : Int32) (hK : mX12_knownSo x0 h = some u) : M1 l w mi_X12_knownSo 2 [vR w x0] h h (some (.int u)) := by
  refine M1.of (own := RX12) (T := fun _ r => r = u) hK (by decide +kernel) rfl (by first | (simp only [lg_lenR, lg_lenI, lg_lenL, lg_len0]; decide) | decide) (fun x hx hnl hhf hl hw hret hnm hQ h0e => ⟨?_, rfl⟩)
  subst hw
  subst hl
  have hR : Rt x h h (some (.int u)) ((some .int)) := ⟨h0e, hhf, hret, hQ⟩
  have hn : ∀ i, i < 3 → i < x.2.2.1.1.1 := fun i hi => by rw [hnl]; exact hi
  have e0 : lv_args 0 [vR x.2.2.2 x0] = [(0, vR x.2.2.2 x0)] := by simp only [lv_argsR, lv_argsI, lv_argsL, lv_args0]
  rw [e0]
  have hb4 : ∀ (x0 : Nat) (x1 : Int32) (x2 : Int32), J x 4 [(0, vR x.2.2.2 x0), (1, .int x1), (2, .int x2)] [] h (mX12_knownSo_l4 x0 x1 x2 h) (fun r => r = u) := by
    intro x0 x1 x2
    have hB : ∀ (x1 : Int32) (x2 : Int32), J x 4 [(0, vR x.2.2.2 x0), (1, .int x1), (2, .int x2)] [] h (mX12_knownSo_l4f x0 h x1 x2) (TL (S := (Int32 × Int32)) x 4 (fun s => [(0, vR x.2.2.2 x0), (1, .int s.1), (2, .int s.2)]) [] (fun s => h) (fun r => r = u)) := by
      intro x1 x2
      have hb39 : ∀ (x0 : Nat) (x2 : Int32) (t0 : Int32) (t1 : Int32), J x 39 [(0, vR x.2.2.2 x0), (2, .int x2)] [.int t1, .int t0] h (mX12_knownSo_b39 x0 x2 t0 t1 h) (TL (S := (Int32 × Int32)) x 4 (fun s => [(0, vR x.2.2.2 x0), (1, .int s.1), (2, .int s.2)]) [] (fun s => h) (fun r => r = u)) := by
        intro x0 x2 t0 t1
        unfold mX12_knownSo_b39
        refine j_ior (q := 40) hx (dc kX12_knownSo_0 25 rfl) rfl ?_
        refine j_istore_n (q := 41) (i := 1) (l2 := [(0, vR x.2.2.2 x0), (2, .int x2)]) hx (dc kX12_knownSo_0 26 rfl) rfl (hn 1 (by decide)) [0, 1] rfl ⟨⟨show (0 : Nat) ≠ 1 by decide, Or.inr (vR_cat _ _)⟩, ⟨⟨show (2 : Nat) ≠ 1 by decide, Or.inl (show (2 : Nat) + 1 ≠ 1 by decide)⟩, trivial⟩⟩ rfl ?_
        refine j_iinc (q := 44) (l2 := [(1, .int (t0 ||| t1)), (0, vR x.2.2.2 x0)]) hx (dc kX12_knownSo_0 27 rfl) 2 rfl (v := (1 : Int32)) (by decide) (hn 2 (by decide)) [0, 1] rfl ⟨⟨show (1 : Nat) ≠ 2 by decide, Or.inr rfl⟩, ⟨⟨show (0 : Nat) ≠ 2 by decide, Or.inl (show (0 : Nat) + 1 ≠ 2 by decide)⟩, trivial⟩⟩ rfl ?_
        refine j_goto (q := 4) hx (dc kX12_knownSo_0 28 rfl) (by decide) ?_
        exact j_back [2, 1, 0] ((t0 ||| t1), (x2 + (1 : Int32))) rfl rfl
      have hb38 : ∀ (x0 : Nat) (x2 : Int32) (t0 : Int32), J x 38 [(0, vR x.2.2.2 x0), (2, .int x2)] [.int t0] h (mX12_knownSo_b38 x0 x2 t0 h) (TL (S := (Int32 × Int32)) x 4 (fun s => [(0, vR x.2.2.2 x0), (1, .int s.1), (2, .int s.2)]) [] (fun s => h) (fun r => r = u)) := by
        intro x0 x2 t0
        unfold mX12_knownSo_b38
        refine j_iconst (q := 39) (v := (0 : Int32)) hx (dc kX12_knownSo_0 24 rfl) (by decide) rfl ?_
        exact hb39 x0 x2 t0 (0 : Int32)
      unfold mX12_knownSo_l4f
      refine j_iload_n (q := 5) hx (dc kX12_knownSo_0 4 rfl) rfl 2 rfl rfl ?_
      refine j_bipush (q := 7) (v := (8 : Int32)) hx (dc kX12_knownSo_0 5 rfl) (by decide) rfl ?_
      refine j_icmp_geS (q := 10) (tgt := 47) hx (dc kX12_knownSo_0 6 rfl) (by decide) rfl ?_ ?_
      · refine j_exit ?_
        refine j_iload_n (q := 48) hx (dc kX12_knownSo_0 29 rfl) rfl 1 rfl rfl ?_
        exact r_iR hx hR (dc kX12_knownSo_0 30 rfl)
      · refine j_iload_n (q := 11) hx (dc kX12_knownSo_0 7 rfl) rfl 1 rfl rfl ?_
        refine j_aload_n (q := 12) hx (dc kX12_knownSo_0 8 rfl) rfl 0 rfl rfl ?_
        refine j_iload_n (q := 13) hx (dc kX12_knownSo_0 9 rfl) rfl 2 rfl rfl ?_
        refine w_cVIR (q := 16) (As := [.int x2]) (st := [.int x1]) hx (dc kX12_knownSo_0 10 rfl) cf12 (by decide) rfl (cI _ my_X12_isKnown lm_X12_326 (by decide)) vs_X12_isKnown rfl (fun u hu => sX12_isKnown _ _ _ _ _ _ hu) (fun e => ite_ne (by unfold mX12_isKnown at e; exact e)) (sum_le (sum_I sum_nil) (by decide)) rfl (fun v1 => ?_)
        refine j_if_eq (q := 19) (tgt := 38) hx (dc kX12_knownSo_0 11 rfl) (by decide) Iff.rfl rfl ?_ ?_
        · exact j_sub [0, 2] rfl (hb38 x0 x2 x1)
        · refine j_aload_n (q := 20) hx (dc kX12_knownSo_0 12 rfl) rfl 0 rfl rfl ?_
          refine w_gR (q := 23) hx (dc kX12_knownSo_0 13 rfl) ff_X12_4 lk_X12_23 rfl (fun v3 => ?_)
          refine j_bipush (q := 25) (v := (8 : Int32)) hx (dc kX12_knownSo_0 14 rfl) (by decide) rfl ?_
          refine j_iload_n (q := 26) hx (dc kX12_knownSo_0 15 rfl) rfl 2 rfl rfl ?_
          refine j_iadd (q := 27) hx (dc kX12_knownSo_0 16 rfl) rfl ?_
          refine j_ldI (q := 28) hx (dc kX12_knownSo_0 17 rfl) rfl (fun v4 => ?_)
          refine j_iconst (q := 29) (v := (1 : Int32)) hx (dc kX12_knownSo_0 18 rfl) (by decide) rfl ?_
          refine j_icmp_neS (q := 32) (tgt := 38) hx (dc kX12_knownSo_0 19 rfl) (by decide) rfl ?_ ?_
          · exact j_sub [0, 2] rfl (hb38 x0 x2 x1)
          · refine j_iconst (q := 33) (v := (1 : Int32)) hx (dc kX12_knownSo_0 20 rfl) (by decide) rfl ?_
            refine j_iload_n (q := 34) hx (dc kX12_knownSo_0 21 rfl) rfl 2 rfl rfl ?_
            refine j_ishl (q := 35) hx (dc kX12_knownSo_0 22 rfl) rfl ?_
            refine j_goto (q := 39) hx (dc kX12_knownSo_0 23 rfl) (by decide) ?_
            exact j_sub [0, 2] rfl (hb39 x0 x2 x1 ((1 : Int32) <<< (x2 &&& 31)))
    exact j_loop (S := (Int32 × Int32)) (lvf := fun s => [(0, vR x.2.2.2 x0), (1, .int s.1), (2, .int s.2)]) (hpf := fun s => h) (f := (fun s : (Int32 × Int32) => mX12_knownSo_l4f x0 h s.1 s.2)) (fun s => hB s.1 s.2) (x1, x2)
  unfold mX12_knownSo
  refine J.ckd fun hck => ?_
  refine j_iconst (q := 1) (v := (0 : Int32)) hx (dc kX12_knownSo_0 0 rfl) (by decide) rfl ?_
  refine j_istore_n (q := 2) (i := 1) (l2 := [(0, vR x.2.2.2 x0)]) hx (dc kX12_knownSo_0 1 rfl) rfl (hn 1 (by decide)) [0] rfl ⟨⟨show (0 : Nat) ≠ 1 by decide, Or.inr (vR_cat _ _)⟩, trivial⟩ rfl ?_
  refine j_iconst (q := 3) (v := (0 : Int32)) hx (dc kX12_knownSo_0 2 rfl) (by decide) rfl ?_
  refine j_istore_n (q := 4) (i := 2) (l2 := [(1, .int (0 : Int32)), (0, vR x.2.2.2 x0)]) hx (dc kX12_knownSo_0 3 rfl) rfl (hn 2 (by decide)) [0, 1] rfl ⟨⟨show (1 : Nat) ≠ 2 by decide, Or.inr rfl⟩, ⟨⟨show (0 : Nat) ≠ 2 by decide, Or.inl (show (0 : Nat) + 1 ≠ 2 by decide)⟩, trivial⟩⟩ rfl ?_
  exact j_sub [2, 1, 0] rfl (hb4 x0 (0 : Int32) (0 : Int32))

set_option maxHeartbeats 4000000 in
set_option maxRecDepth 100000 in
theorem sX12_laysAgreed (l : Launch) (w : Wd) (x0 : Nat) (x1 : Nat) (x2 : Int32) (x3 : Int32) (h : Hp) (u : Hp) (hK : mX12_laysAgreed x0 x1 x2 x3 h = some u) : M1 l w mi_X12_laysAgreed 2 [vR w x0, vR w x1, .int x2, .int x3] h u (none) := by
  refine M1.of (own := RX12) (T := fun _ r => r = u) hK (by decide +kernel) rfl (by first | (simp only [lg_lenR, lg_lenI, lg_lenL, lg_len0]; decide) | decide) (fun x hx hnl hhf hl hw hret hnm hQ h0e => ⟨?_, rfl⟩)
  subst hw
  subst hl
  have hR : Rt x h u (none) (none) := ⟨h0e, hhf, hret, hQ⟩
  have hn : ∀ i, i < 5 → i < x.2.2.1.1.1 := fun i hi => by rw [hnl]; exact hi
  have e0 : lv_args 0 [vR x.2.2.2 x0, vR x.2.2.2 x1, .int x2, .int x3] = [(0, vR x.2.2.2 x0), (1, vR x.2.2.2 x1), (2, .int x2), (3, .int x3)] := by simp only [lv_argsR, lv_argsI, lv_argsL, lv_args0]
  rw [e0]
  have hb7 : ∀ (x0 : Nat) (x1 : Nat) (x2 : Int32) (x3 : Int32) (x4 : Int32) (h : Hp), J x 7 [(0, vR x.2.2.2 x0), (1, vR x.2.2.2 x1), (2, .int x2), (3, .int x3), (4, .int x4)] [] h (mX12_laysAgreed_l7 x0 x1 x2 x3 x4 h) (fun r => r = u) := by
    intro x0 x1 x2 x3 x4 h
    have hB : ∀ (x4 : Int32) (h : Hp), J x 7 [(0, vR x.2.2.2 x0), (1, vR x.2.2.2 x1), (2, .int x2), (3, .int x3), (4, .int x4)] [] h (mX12_laysAgreed_l7f x0 x1 x2 x3 x4 h) (TL (S := (Int32 × Hp)) x 7 (fun s => [(0, vR x.2.2.2 x0), (1, vR x.2.2.2 x1), (2, .int x2), (3, .int x3), (4, .int s.1)]) [] (fun s => s.2) (fun r => r = u)) := by
      intro x4 h
      have hb45 : ∀ (x0 : Nat) (x1 : Nat) (x2 : Int32) (x3 : Int32) (x4 : Int32) (t0 : Nat) (t1 : Int32) (t2 : Int32) (t3 : Int32) (h : Hp), J x 45 [(0, vR x.2.2.2 x0), (1, vR x.2.2.2 x1), (2, .int x2), (3, .int x3), (4, .int x4)] [.int t3, .int t2, .int t1, vR x.2.2.2 t0] h (mX12_laysAgreed_b45 x0 x1 x2 x3 x4 t0 t1 t2 t3 h) (TL (S := (Int32 × Hp)) x 7 (fun s => [(0, vR x.2.2.2 x0), (1, vR x.2.2.2 x1), (2, .int x2), (3, .int x3), (4, .int s.1)]) [] (fun s => s.2) (fun r => r = u)) := by
        intro x0 x1 x2 x3 x4 t0 t1 t2 t3 h
        unfold mX12_laysAgreed_b45
        refine w_cSVW (q := 48) (As := [vR x.2.2.2 t0, .int t1, .int t2, .int t3]) (st := []) hx (dc kX12_laysAgreed_0 24 rfl) (cI _ my_X12_adds lm_X12_301 (by decide)) st_X12_adds rfl (fun u hu => sX12_adds _ _ _ _ _ _ _ _ hu) (Nat.zero_le _) rfl (fun h4 => ?_)
        refine j_iinc (q := 51) (l2 := [(0, vR x.2.2.2 x0), (1, vR x.2.2.2 x1), (2, .int x2), (3, .int x3)]) hx (dc kX12_laysAgreed_0 25 rfl) 4 rfl (v := (1 : Int32)) (by decide) (hn 4 (by decide)) [0, 1, 2, 3] rfl ⟨⟨show (0 : Nat) ≠ 4 by decide, Or.inl (show (0 : Nat) + 1 ≠ 4 by decide)⟩, ⟨⟨show (1 : Nat) ≠ 4 by decide, Or.inl (show (1 : Nat) + 1 ≠ 4 by decide)⟩, ⟨⟨show (2 : Nat) ≠ 4 by decide, Or.inl (show (2 : Nat) + 1 ≠ 4 by decide)⟩, ⟨⟨show (3 : Nat) ≠ 4 by decide, Or.inr rfl⟩, trivial⟩⟩⟩⟩ rfl ?_
        refine j_goto (q := 7) hx (dc kX12_laysAgreed_0 26 rfl) (by decide) ?_
        exact j_back [1, 2, 3, 4, 0] ((x4 + (1 : Int32)), h4) rfl rfl
      have hb44 : ∀ (x0 : Nat) (x1 : Nat) (x2 : Int32) (x3 : Int32) (x4 : Int32) (t0 : Nat) (t1 : Int32) (t2 : Int32) (h : Hp), J x 44 [(0, vR x.2.2.2 x0), (1, vR x.2.2.2 x1), (2, .int x2), (3, .int x3), (4, .int x4)] [.int t2, .int t1, vR x.2.2.2 t0] h (mX12_laysAgreed_b44 x0 x1 x2 x3 x4 t0 t1 t2 h) (TL (S := (Int32 × Hp)) x 7 (fun s => [(0, vR x.2.2.2 x0), (1, vR x.2.2.2 x1), (2, .int x2), (3, .int x3), (4, .int s.1)]) [] (fun s => s.2) (fun r => r = u)) := by
        intro x0 x1 x2 x3 x4 t0 t1 t2 h
        unfold mX12_laysAgreed_b44
        refine j_iconst (q := 45) (v := (0 : Int32)) hx (dc kX12_laysAgreed_0 23 rfl) (by decide) rfl ?_
        exact hb45 x0 x1 x2 x3 x4 t0 t1 t2 (0 : Int32) h
      unfold mX12_laysAgreed_l7f
      refine j_iload (q := 9) hx (dc kX12_laysAgreed_0 4 rfl) 4 rfl rfl ?_
      refine j_sipush (q := 12) (v := (256 : Int32)) hx (dc kX12_laysAgreed_0 5 rfl) (by decide) rfl ?_
      refine j_icmp_geS (q := 15) (tgt := 54) hx (dc kX12_laysAgreed_0 6 rfl) (by decide) rfl ?_ ?_
      · refine j_exit ?_
        exact r_vW hx hR (dc kX12_laysAgreed_0 27 rfl)
      · refine j_aload_n (q := 16) hx (dc kX12_laysAgreed_0 7 rfl) rfl 1 rfl rfl ?_
        refine j_iconst (q := 17) (v := (0 : Int32)) hx (dc kX12_laysAgreed_0 8 rfl) (by decide) rfl ?_
        refine j_iload (q := 19) hx (dc kX12_laysAgreed_0 9 rfl) 4 rfl rfl ?_
        refine j_iload (q := 21) hx (dc kX12_laysAgreed_0 10 rfl) 4 rfl rfl ?_
        refine j_iload_n (q := 22) hx (dc kX12_laysAgreed_0 11 rfl) rfl 2 rfl rfl ?_
        refine j_iand (q := 23) hx (dc kX12_laysAgreed_0 12 rfl) rfl ?_
        refine j_iload_n (q := 24) hx (dc kX12_laysAgreed_0 13 rfl) rfl 3 rfl rfl ?_
        refine j_icmp_neS (q := 27) (tgt := 44) hx (dc kX12_laysAgreed_0 14 rfl) (by decide) rfl ?_ ?_
        · exact hb44 x0 x1 x2 x3 x4 x1 (0 : Int32) x4 h
        · refine j_aload_n (q := 28) hx (dc kX12_laysAgreed_0 15 rfl) rfl 0 rfl rfl ?_
          refine w_gR (q := 31) hx (dc kX12_laysAgreed_0 16 rfl) ff_X12_24 lk_X12_46 rfl (fun v5 => ?_)
          refine j_iconst (q := 32) (v := (0 : Int32)) hx (dc kX12_laysAgreed_0 17 rfl) (by decide) rfl ?_
          refine j_iload (q := 34) hx (dc kX12_laysAgreed_0 18 rfl) 4 rfl rfl ?_
          refine w_cSIR (q := 37) (As := [vR x.2.2.2 v5, .int (0 : Int32), .int x4]) (st := [.int x4, .int (0 : Int32), vR x.2.2.2 x1]) hx (dc kX12_laysAgreed_0 19 rfl) (cI _ my_X12_isIn lm_X12_311 (by decide)) st_X12_isIn rfl (fun u hu => sX12_isIn _ _ _ _ _ _ _ hu) (sum_le (sum_I (sum_I (sum_R sum_nil))) (by decide)) rfl (fun v6 => ?_)
          refine j_if_eq (q := 40) (tgt := 44) hx (dc kX12_laysAgreed_0 20 rfl) (by decide) Iff.rfl rfl ?_ ?_
          · exact hb44 x0 x1 x2 x3 x4 x1 (0 : Int32) x4 h
          · refine j_iconst (q := 41) (v := (1 : Int32)) hx (dc kX12_laysAgreed_0 21 rfl) (by decide) rfl ?_
            refine j_goto (q := 45) hx (dc kX12_laysAgreed_0 22 rfl) (by decide) ?_
            exact hb45 x0 x1 x2 x3 x4 x1 (0 : Int32) x4 (1 : Int32) h
    exact j_loop (S := (Int32 × Hp)) (lvf := fun s => [(0, vR x.2.2.2 x0), (1, vR x.2.2.2 x1), (2, .int x2), (3, .int x3), (4, .int s.1)]) (hpf := fun s => s.2) (f := (fun s : (Int32 × Hp) => mX12_laysAgreed_l7f x0 x1 x2 x3 s.1 s.2)) (fun s => hB s.1 s.2) (x4, h)
  unfold mX12_laysAgreed
  refine J.ckd fun hck => ?_
  refine j_aload_n (q := 1) hx (dc kX12_laysAgreed_0 0 rfl) rfl 1 rfl rfl ?_
  refine w_cSVW (q := 4) (As := [vR x.2.2.2 x1]) (st := []) hx (dc kX12_laysAgreed_0 1 rfl) (cI _ my_X12_empties lm_X12_297 (by decide)) st_X12_empties rfl (fun u hu => sX12_empties _ _ _ _ _ hu) (Nat.zero_le _) rfl (fun h2 => ?_)
  refine j_iconst (q := 5) (v := (0 : Int32)) hx (dc kX12_laysAgreed_0 2 rfl) (by decide) rfl ?_
  refine j_istore (q := 7) (i := 4) (l2 := [(0, vR x.2.2.2 x0), (1, vR x.2.2.2 x1), (2, .int x2), (3, .int x3)]) hx (dc kX12_laysAgreed_0 3 rfl) (hn 4 (by decide)) [0, 1, 2, 3] rfl ⟨⟨show (0 : Nat) ≠ 4 by decide, Or.inl (show (0 : Nat) + 1 ≠ 4 by decide)⟩, ⟨⟨show (1 : Nat) ≠ 4 by decide, Or.inl (show (1 : Nat) + 1 ≠ 4 by decide)⟩, ⟨⟨show (2 : Nat) ≠ 4 by decide, Or.inl (show (2 : Nat) + 1 ≠ 4 by decide)⟩, ⟨⟨show (3 : Nat) ≠ 4 by decide, Or.inr rfl⟩, trivial⟩⟩⟩⟩ rfl ?_
  exact j_sub [1, 2, 3, 4, 0] rfl (hb7 x0 x1 x2 x3 (0 : Int32) h2)

set_option maxHeartbeats 4000000 in
set_option maxRecDepth 100000 in
theorem sX12_laysKnown (l : Launch) (w : Wd) (x0 : Nat) (h : Hp) (u : Hp) (hK : mX12_laysKnown x0 h = some u) : M1 l w mi_X12_laysKnown 3 [vR w x0] h u (none) := by
  refine M1.of (own := RX12) (T := fun _ r => r = u) hK (by decide +kernel) rfl (by first | (simp only [lg_lenR, lg_lenI, lg_lenL, lg_len0]; decide) | decide) (fun x hx hnl hhf hl hw hret hnm hQ h0e => ⟨?_, rfl⟩)
  subst hw
  subst hl
  have hR : Rt x h u (none) (none) := ⟨h0e, hhf, hret, hQ⟩
  have hn : ∀ i, i < 1 → i < x.2.2.1.1.1 := fun i hi => by rw [hnl]; exact hi
  have e0 : lv_args 0 [vR x.2.2.2 x0] = [(0, vR x.2.2.2 x0)] := by simp only [lv_argsR, lv_argsI, lv_argsL, lv_args0]
  rw [e0]
  unfold mX12_laysKnown
  refine J.ckd fun hck => ?_
  refine j_aload_n (q := 1) hx (dc kX12_laysKnown_0 0 rfl) rfl 0 rfl rfl ?_
  refine j_aload_n (q := 2) hx (dc kX12_laysKnown_0 1 rfl) rfl 0 rfl rfl ?_
  refine w_gR (q := 5) hx (dc kX12_laysKnown_0 2 rfl) ff_X12_27 lk_X12_55 rfl (fun v1 => ?_)
  refine j_aload_n (q := 6) hx (dc kX12_laysKnown_0 3 rfl) rfl 0 rfl rfl ?_
  refine w_cVIR (q := 9) (As := []) (st := [vR x.2.2.2 v1, vR x.2.2.2 x0]) hx (dc kX12_laysKnown_0 4 rfl) cf12 (by decide) rfl (cI _ my_X12_knownFacts lm_X12_329 (by decide)) vs_X12_knownFacts rfl (fun u hu => sX12_knownFacts _ _ _ _ _ hu) (fun e => ite_ne (by unfold mX12_knownFacts at e; exact e)) (sum_le (sum_R (sum_R sum_nil)) (by decide)) rfl (fun v2 => ?_)
  refine j_aload_n (q := 10) hx (dc kX12_laysKnown_0 5 rfl) rfl 0 rfl rfl ?_
  refine w_cVIR (q := 13) (As := []) (st := [.int v2, vR x.2.2.2 v1, vR x.2.2.2 x0]) hx (dc kX12_laysKnown_0 6 rfl) cf12 (by decide) rfl (cI _ my_X12_knownSo lm_X12_332 (by decide)) vs_X12_knownSo rfl (fun u hu => sX12_knownSo _ _ _ _ _ hu) (fun e => ite_ne (by unfold mX12_knownSo at e; exact e)) (sum_le (sum_I (sum_R (sum_R sum_nil))) (by decide)) rfl (fun v4 => ?_)
  refine w_cVVW (q := 16) (As := [vR x.2.2.2 v1, .int v2, .int v4]) (st := []) hx (dc kX12_laysKnown_0 7 rfl) cf12 (by decide) rfl (cI _ my_X12_laysAgreed lm_X12_335 (by decide)) vs_X12_laysAgreed rfl (fun u hu => sX12_laysAgreed _ _ _ _ _ _ _ _ hu) (fun e => ite_ne (by unfold mX12_laysAgreed at e; exact e)) (Nat.zero_le _) rfl (fun h7 => ?_)
  exact r_vW hx hR (dc kX12_laysKnown_0 8 rfl)

set_option maxHeartbeats 4000000 in
set_option maxRecDepth 100000 in
theorem sX12_laysTables (l : Launch) (w : Wd) (x0 : Nat) (h : Hp) (u : Hp) (hK : mX12_laysTables x0 h = some u) : M1 l w mi_X12_laysTables 4 [vR w x0] h u (none) := by
  refine M1.of (own := RX12) (T := fun _ r => r = u) hK (by decide +kernel) rfl (by first | (simp only [lg_lenR, lg_lenI, lg_lenL, lg_len0]; decide) | decide) (fun x hx hnl hhf hl hw hret hnm hQ h0e => ⟨?_, rfl⟩)
  subst hw
  subst hl
  have hR : Rt x h u (none) (none) := ⟨h0e, hhf, hret, hQ⟩
  have hn : ∀ i, i < 3 → i < x.2.2.1.1.1 := fun i hi => by rw [hnl]; exact hi
  have e0 : lv_args 0 [vR x.2.2.2 x0] = [(0, vR x.2.2.2 x0)] := by simp only [lv_argsR, lv_argsI, lv_argsL, lv_args0]
  rw [e0]
  have hb23 : ∀ (x0 : Nat) (x1 : Int32) (h : Hp), J x 23 [(0, vR x.2.2.2 x0), (1, .int x1)] [] h (mX12_laysTables_l23 x0 x1 h) (fun r => r = u) := by
    intro x0 x1 h
    have hB : ∀ (x1 : Int32) (h : Hp), J x 23 [(0, vR x.2.2.2 x0), (1, .int x1)] [] h (mX12_laysTables_l23f x0 x1 h) (TL (S := (Int32 × Hp)) x 23 (fun s => [(0, vR x.2.2.2 x0), (1, .int s.1)]) [] (fun s => s.2) (fun r => r = u)) := by
      intro x1 h
      have hb102 : ∀ (x0 : Nat) (x1 : Int32) (x2 : Int32) (h : Hp), J x 102 [(0, vR x.2.2.2 x0), (1, .int x1), (2, .int x2)] [] h (mX12_laysTables_l102 x0 x1 x2 h) (TL (S := (Int32 × Hp)) x 23 (fun s => [(0, vR x.2.2.2 x0), (1, .int s.1)]) [] (fun s => s.2) (fun r => r = u)) := by
        intro x0 x1 x2 h
        have hB : ∀ (x2 : Int32) (h : Hp), J x 102 [(0, vR x.2.2.2 x0), (1, .int x1), (2, .int x2)] [] h (mX12_laysTables_l102f x0 x1 x2 h) (TL (S := (Int32 × Hp)) x 102 (fun s => [(0, vR x.2.2.2 x0), (1, .int x1), (2, .int s.1)]) [] (fun s => s.2) (TL (S := (Int32 × Hp)) x 23 (fun s => [(0, vR x.2.2.2 x0), (1, .int s.1)]) [] (fun s => s.2) (fun r => r = u))) := by
          intro x2 h
          unfold mX12_laysTables_l102f
          refine j_iload_n (q := 103) hx (dc kX12_laysTables_0 57 rfl) rfl 2 rfl rfl ?_
          refine j_aload_n (q := 104) hx (dc kX12_laysTables_0 58 rfl) rfl 0 rfl rfl ?_
          refine w_gR (q := 107) hx (dc kX12_laysTables_0 59 rfl) ff_X12_0 lk_X12_7 rfl (fun v22 => ?_)
          refine j_iconst (q := 108) (v := (2 : Int32)) hx (dc kX12_laysTables_0 60 rfl) (by decide) rfl ?_
          refine j_ldI (q := 109) hx (dc kX12_laysTables_0 61 rfl) rfl (fun v23 => ?_)
          refine j_icmp_geS (q := 112) (tgt := 133) hx (dc kX12_laysTables_0 62 rfl) (by decide) rfl ?_ ?_
          · refine j_exit ?_
            refine j_iinc (q := 136) (l2 := [(0, vR x.2.2.2 x0)]) hx (dc kX12_laysTables_1 10 rfl) 1 rfl (v := (1 : Int32)) (by decide) (hn 1 (by decide)) [0] rfl ⟨⟨show (0 : Nat) ≠ 1 by decide, Or.inr (vR_cat _ _)⟩, trivial⟩ rfl ?_
            refine j_goto (q := 23) hx (dc kX12_laysTables_1 11 rfl) (by decide) ?_
            exact j_back [1, 0] ((x1 + (1 : Int32)), h) rfl rfl
          · refine j_aload_n (q := 113) hx (dc kX12_laysTables_0 63 rfl) rfl 0 rfl rfl ?_
            refine w_gR (q := 116) hx (dc kX12_laysTables_1 0 rfl) ff_X12_26 lk_X12_52 rfl (fun v24 => ?_)
            refine j_iload_n (q := 117) hx (dc kX12_laysTables_1 1 rfl) rfl 2 rfl rfl ?_
            refine j_iload_n (q := 118) hx (dc kX12_laysTables_1 2 rfl) rfl 1 rfl rfl ?_
            refine j_aload_n (q := 119) hx (dc kX12_laysTables_1 3 rfl) rfl 0 rfl rfl ?_
            refine j_iload_n (q := 120) hx (dc kX12_laysTables_1 4 rfl) rfl 2 rfl rfl ?_
            refine j_iload_n (q := 121) hx (dc kX12_laysTables_1 5 rfl) rfl 1 rfl rfl ?_
            refine w_cVIR (q := 124) (As := [.int x2, .int x1]) (st := [.int x1, .int x2, vR x.2.2.2 v24]) hx (dc kX12_laysTables_1 6 rfl) cf12 (by decide) rfl (cI _ my_X12_isWonTold lm_X12_305 (by decide)) vs_X12_isWonTold rfl (fun u hu => sX12_isWonTold _ _ _ _ _ _ _ hu) (fun e => ite_ne (by unfold mX12_isWonTold at e; exact e)) (sum_le (sum_I (sum_I (sum_R sum_nil))) (by decide)) rfl (fun v25 => ?_)
            refine w_cSVW (q := 127) (As := [vR x.2.2.2 v24, .int x2, .int x1, .int v25]) (st := []) hx (dc kX12_laysTables_1 7 rfl) (cI _ my_X12_adds lm_X12_301 (by decide)) st_X12_adds rfl (fun u hu => sX12_adds _ _ _ _ _ _ _ _ hu) (Nat.zero_le _) rfl (fun h28 => ?_)
            refine j_iinc (q := 130) (l2 := [(0, vR x.2.2.2 x0), (1, .int x1)]) hx (dc kX12_laysTables_1 8 rfl) 2 rfl (v := (1 : Int32)) (by decide) (hn 2 (by decide)) [0, 1] rfl ⟨⟨show (0 : Nat) ≠ 2 by decide, Or.inl (show (0 : Nat) + 1 ≠ 2 by decide)⟩, ⟨⟨show (1 : Nat) ≠ 2 by decide, Or.inr rfl⟩, trivial⟩⟩ rfl ?_
            refine j_goto (q := 102) hx (dc kX12_laysTables_1 9 rfl) (by decide) ?_
            exact j_back [1, 2, 0] ((x2 + (1 : Int32)), h28) rfl rfl
        exact j_loop (S := (Int32 × Hp)) (lvf := fun s => [(0, vR x.2.2.2 x0), (1, .int x1), (2, .int s.1)]) (hpf := fun s => s.2) (f := (fun s : (Int32 × Hp) => mX12_laysTables_l102f x0 x1 s.1 s.2)) (fun s => hB s.1 s.2) (x2, h)
      have hb55 : ∀ (x0 : Nat) (x1 : Int32) (x2 : Int32) (h : Hp), J x 55 [(0, vR x.2.2.2 x0), (1, .int x1), (2, .int x2)] [] h (mX12_laysTables_l55 x0 x1 x2 h) (TL (S := (Int32 × Hp)) x 23 (fun s => [(0, vR x.2.2.2 x0), (1, .int s.1)]) [] (fun s => s.2) (fun r => r = u)) := by
        intro x0 x1 x2 h
        have hB : ∀ (x2 : Int32) (h : Hp), J x 55 [(0, vR x.2.2.2 x0), (1, .int x1), (2, .int x2)] [] h (mX12_laysTables_l55f x0 x1 x2 h) (TL (S := (Int32 × Hp)) x 55 (fun s => [(0, vR x.2.2.2 x0), (1, .int x1), (2, .int s.1)]) [] (fun s => s.2) (TL (S := (Int32 × Hp)) x 23 (fun s => [(0, vR x.2.2.2 x0), (1, .int s.1)]) [] (fun s => s.2) (fun r => r = u))) := by
          intro x2 h
          have hb91 : ∀ (x0 : Nat) (x1 : Int32) (x2 : Int32) (t0 : Nat) (t1 : Int32) (t2 : Int32) (t3 : Int32) (h : Hp), J x 91 [(0, vR x.2.2.2 x0), (1, .int x1), (2, .int x2)] [.int t3, .int t2, .int t1, vR x.2.2.2 t0] h (mX12_laysTables_b91 x0 x1 x2 t0 t1 t2 t3 h) (TL (S := (Int32 × Hp)) x 55 (fun s => [(0, vR x.2.2.2 x0), (1, .int x1), (2, .int s.1)]) [] (fun s => s.2) (TL (S := (Int32 × Hp)) x 23 (fun s => [(0, vR x.2.2.2 x0), (1, .int s.1)]) [] (fun s => s.2) (fun r => r = u))) := by
            intro x0 x1 x2 t0 t1 t2 t3 h
            unfold mX12_laysTables_b91
            refine w_cSVW (q := 94) (As := [vR x.2.2.2 t0, .int t1, .int t2, .int t3]) (st := []) hx (dc kX12_laysTables_0 52 rfl) (cI _ my_X12_adds lm_X12_301 (by decide)) st_X12_adds rfl (fun u hu => sX12_adds _ _ _ _ _ _ _ _ hu) (Nat.zero_le _) rfl (fun h34 => ?_)
            refine j_iinc (q := 97) (l2 := [(0, vR x.2.2.2 x0), (1, .int x1)]) hx (dc kX12_laysTables_0 53 rfl) 2 rfl (v := (1 : Int32)) (by decide) (hn 2 (by decide)) [0, 1] rfl ⟨⟨show (0 : Nat) ≠ 2 by decide, Or.inl (show (0 : Nat) + 1 ≠ 2 by decide)⟩, ⟨⟨show (1 : Nat) ≠ 2 by decide, Or.inr rfl⟩, trivial⟩⟩ rfl ?_
            refine j_goto (q := 55) hx (dc kX12_laysTables_0 54 rfl) (by decide) ?_
            exact j_back [1, 2, 0] ((x2 + (1 : Int32)), h34) rfl rfl
          unfold mX12_laysTables_l55f
          refine j_iload_n (q := 56) hx (dc kX12_laysTables_0 31 rfl) rfl 2 rfl rfl ?_
          refine j_aload_n (q := 57) hx (dc kX12_laysTables_0 32 rfl) rfl 0 rfl rfl ?_
          refine w_gR (q := 60) hx (dc kX12_laysTables_0 33 rfl) ff_X12_0 lk_X12_7 rfl (fun v20 => ?_)
          refine j_bipush (q := 62) (v := (6 : Int32)) hx (dc kX12_laysTables_0 34 rfl) (by decide) rfl ?_
          refine j_ldI (q := 63) hx (dc kX12_laysTables_0 35 rfl) rfl (fun v21 => ?_)
          refine j_icmp_geS (q := 66) (tgt := 100) hx (dc kX12_laysTables_0 36 rfl) (by decide) rfl ?_ ?_
          · refine j_exit ?_
            refine j_iconst (q := 101) (v := (0 : Int32)) hx (dc kX12_laysTables_0 55 rfl) (by decide) rfl ?_
            refine j_istore_n (q := 102) (i := 2) (l2 := [(0, vR x.2.2.2 x0), (1, .int x1)]) hx (dc kX12_laysTables_0 56 rfl) rfl (hn 2 (by decide)) [0, 1] rfl ⟨⟨show (0 : Nat) ≠ 2 by decide, Or.inl (show (0 : Nat) + 1 ≠ 2 by decide)⟩, ⟨⟨show (1 : Nat) ≠ 2 by decide, Or.inr rfl⟩, trivial⟩⟩ rfl ?_
            exact j_sub [1, 2, 0] rfl (hb102 x0 x1 (0 : Int32) h)
          · refine j_aload_n (q := 67) hx (dc kX12_laysTables_0 37 rfl) rfl 0 rfl rfl ?_
            refine w_gR (q := 70) hx (dc kX12_laysTables_0 38 rfl) ff_X12_25 lk_X12_49 rfl (fun v29 => ?_)
            refine j_iload_n (q := 71) hx (dc kX12_laysTables_0 39 rfl) rfl 2 rfl rfl ?_
            refine j_iload_n (q := 72) hx (dc kX12_laysTables_0 40 rfl) rfl 1 rfl rfl ?_
            refine j_aload_n (q := 73) hx (dc kX12_laysTables_0 41 rfl) rfl 0 rfl rfl ?_
            refine j_aload_n (q := 74) hx (dc kX12_laysTables_0 42 rfl) rfl 0 rfl rfl ?_
            refine w_gR (q := 77) hx (dc kX12_laysTables_0 43 rfl) ff_X12_0 lk_X12_7 rfl (fun v30 => ?_)
            refine j_iload_n (q := 78) hx (dc kX12_laysTables_0 44 rfl) rfl 2 rfl rfl ?_
            refine j_iload_n (q := 79) hx (dc kX12_laysTables_0 45 rfl) rfl 1 rfl rfl ?_
            refine w_cVIW (q := 82) (As := [vR x.2.2.2 v30, .int x2, .int x1]) (st := [.int x1, .int x2, vR x.2.2.2 v29]) hx (dc kX12_laysTables_0 46 rfl) cf12 (by decide) rfl (cI _ my_X12_holds lm_X12_293 (by decide)) vs_X12_holds rfl (fun u hu => sX12_holds _ _ _ _ _ _ _ _ hu) (fun e => ite_ne (by unfold mX12_holds at e; exact e)) (sum_le (sum_I (sum_I (sum_R sum_nil))) (by decide)) rfl (fun v31 h32 => ?_)
            refine j_iconst (q := 83) (v := (1 : Int32)) hx (dc kX12_laysTables_0 47 rfl) (by decide) rfl ?_
            refine j_icmp_neS (q := 86) (tgt := 90) hx (dc kX12_laysTables_0 48 rfl) (by decide) rfl ?_ ?_
            · refine j_iconst (q := 91) (v := (0 : Int32)) hx (dc kX12_laysTables_0 51 rfl) (by decide) rfl ?_
              exact hb91 x0 x1 x2 v29 x2 x1 (0 : Int32) h32
            · refine j_iconst (q := 87) (v := (1 : Int32)) hx (dc kX12_laysTables_0 49 rfl) (by decide) rfl ?_
              refine j_goto (q := 91) hx (dc kX12_laysTables_0 50 rfl) (by decide) ?_
              exact hb91 x0 x1 x2 v29 x2 x1 (1 : Int32) h32
        exact j_loop (S := (Int32 × Hp)) (lvf := fun s => [(0, vR x.2.2.2 x0), (1, .int x1), (2, .int s.1)]) (hpf := fun s => s.2) (f := (fun s : (Int32 × Hp) => mX12_laysTables_l55f x0 x1 s.1 s.2)) (fun s => hB s.1 s.2) (x2, h)
      unfold mX12_laysTables_l23f
      refine j_iload_n (q := 24) hx (dc kX12_laysTables_0 11 rfl) rfl 1 rfl rfl ?_
      refine j_iconst (q := 25) (v := (1 : Int32)) hx (dc kX12_laysTables_0 12 rfl) (by decide) rfl ?_
      refine j_aload_n (q := 26) hx (dc kX12_laysTables_0 13 rfl) rfl 0 rfl rfl ?_
      refine w_gR (q := 29) hx (dc kX12_laysTables_0 14 rfl) ff_X12_0 lk_X12_7 rfl (fun v10 => ?_)
      refine j_iconst (q := 30) (v := (1 : Int32)) hx (dc kX12_laysTables_0 15 rfl) (by decide) rfl ?_
      refine j_ldI (q := 31) hx (dc kX12_laysTables_0 16 rfl) rfl (fun v11 => ?_)
      refine j_ishl (q := 32) hx (dc kX12_laysTables_0 17 rfl) rfl ?_
      refine j_icmp_geS (q := 35) (tgt := 139) hx (dc kX12_laysTables_0 18 rfl) (by decide) rfl ?_ ?_
      · refine j_exit ?_
        refine j_aload_n (q := 140) hx (dc kX12_laysTables_1 12 rfl) rfl 0 rfl rfl ?_
        refine w_cVVW (q := 143) (As := []) (st := []) hx (dc kX12_laysTables_1 13 rfl) cf12 (by decide) rfl (cI _ my_X12_laysKnown lm_X12_308 (by decide)) vs_X12_laysKnown rfl (fun u hu => sX12_laysKnown _ _ _ _ _ hu) (fun e => ite_ne (by unfold mX12_laysKnown at e; exact e)) (Nat.zero_le _) rfl (fun h13 => ?_)
        exact r_vW hx hR (dc kX12_laysTables_1 14 rfl)
      · refine j_aload_n (q := 36) hx (dc kX12_laysTables_0 19 rfl) rfl 0 rfl rfl ?_
        refine w_gR (q := 39) hx (dc kX12_laysTables_0 20 rfl) ff_X12_24 lk_X12_46 rfl (fun v14 => ?_)
        refine j_iconst (q := 40) (v := (0 : Int32)) hx (dc kX12_laysTables_0 21 rfl) (by decide) rfl ?_
        refine j_iload_n (q := 41) hx (dc kX12_laysTables_0 22 rfl) rfl 1 rfl rfl ?_
        refine j_aload_n (q := 42) hx (dc kX12_laysTables_0 23 rfl) rfl 0 rfl rfl ?_
        refine j_aload_n (q := 43) hx (dc kX12_laysTables_0 24 rfl) rfl 0 rfl rfl ?_
        refine w_gR (q := 46) hx (dc kX12_laysTables_0 25 rfl) ff_X12_0 lk_X12_7 rfl (fun v15 => ?_)
        refine j_iload_n (q := 47) hx (dc kX12_laysTables_0 26 rfl) rfl 1 rfl rfl ?_
        refine w_cVIW (q := 50) (As := [vR x.2.2.2 v15, .int x1]) (st := [.int x1, .int (0 : Int32), vR x.2.2.2 v14]) hx (dc kX12_laysTables_0 27 rfl) cf12 (by decide) rfl (cI _ my_X12_mayBe lm_X12_235 (by decide)) vs_X12_mayBe rfl (fun u hu => sX12_mayBe _ _ _ _ _ _ _ hu) (fun e => ite_ne (by unfold mX12_mayBe at e; exact e)) (sum_le (sum_I (sum_I (sum_R sum_nil))) (by decide)) rfl (fun v16 h17 => ?_)
        refine w_cSVW (q := 53) (As := [vR x.2.2.2 v14, .int (0 : Int32), .int x1, .int v16]) (st := []) hx (dc kX12_laysTables_0 28 rfl) (cI _ my_X12_adds lm_X12_301 (by decide)) st_X12_adds rfl (fun u hu => sX12_adds _ _ _ _ _ _ _ _ hu) (Nat.zero_le _) rfl (fun h19 => ?_)
        refine j_iconst (q := 54) (v := (0 : Int32)) hx (dc kX12_laysTables_0 29 rfl) (by decide) rfl ?_
        refine j_istore_n (q := 55) (i := 2) (l2 := [(0, vR x.2.2.2 x0), (1, .int x1)]) hx (dc kX12_laysTables_0 30 rfl) rfl (hn 2 (by decide)) [0, 1] rfl ⟨⟨show (0 : Nat) ≠ 2 by decide, Or.inl (show (0 : Nat) + 1 ≠ 2 by decide)⟩, ⟨⟨show (1 : Nat) ≠ 2 by decide, Or.inr rfl⟩, trivial⟩⟩ rfl ?_
        exact j_sub [1, 2, 0] rfl (hb55 x0 x1 (0 : Int32) h19)
    exact j_loop (S := (Int32 × Hp)) (lvf := fun s => [(0, vR x.2.2.2 x0), (1, .int s.1)]) (hpf := fun s => s.2) (f := (fun s : (Int32 × Hp) => mX12_laysTables_l23f x0 s.1 s.2)) (fun s => hB s.1 s.2) (x1, h)
  unfold mX12_laysTables
  refine J.ckd fun hck => ?_
  refine j_aload_n (q := 1) hx (dc kX12_laysTables_0 0 rfl) rfl 0 rfl rfl ?_
  refine w_gR (q := 4) hx (dc kX12_laysTables_0 1 rfl) ff_X12_24 lk_X12_46 rfl (fun v1 => ?_)
  refine w_cSVW (q := 7) (As := [vR x.2.2.2 v1]) (st := []) hx (dc kX12_laysTables_0 2 rfl) (cI _ my_X12_empties lm_X12_297 (by decide)) st_X12_empties rfl (fun u hu => sX12_empties _ _ _ _ _ hu) (Nat.zero_le _) rfl (fun h3 => ?_)
  refine j_aload_n (q := 8) hx (dc kX12_laysTables_0 3 rfl) rfl 0 rfl rfl ?_
  refine w_gR (q := 11) hx (dc kX12_laysTables_0 4 rfl) ff_X12_25 lk_X12_49 rfl (fun v4 => ?_)
  refine w_cSVW (q := 14) (As := [vR x.2.2.2 v4]) (st := []) hx (dc kX12_laysTables_0 5 rfl) (cI _ my_X12_empties lm_X12_297 (by decide)) st_X12_empties rfl (fun u hu => sX12_empties _ _ _ _ _ hu) (Nat.zero_le _) rfl (fun h6 => ?_)
  refine j_aload_n (q := 15) hx (dc kX12_laysTables_0 6 rfl) rfl 0 rfl rfl ?_
  refine w_gR (q := 18) hx (dc kX12_laysTables_0 7 rfl) ff_X12_26 lk_X12_52 rfl (fun v7 => ?_)
  refine w_cSVW (q := 21) (As := [vR x.2.2.2 v7]) (st := []) hx (dc kX12_laysTables_0 8 rfl) (cI _ my_X12_empties lm_X12_297 (by decide)) st_X12_empties rfl (fun u hu => sX12_empties _ _ _ _ _ hu) (Nat.zero_le _) rfl (fun h9 => ?_)
  refine j_iconst (q := 22) (v := (0 : Int32)) hx (dc kX12_laysTables_0 9 rfl) (by decide) rfl ?_
  refine j_istore_n (q := 23) (i := 1) (l2 := [(0, vR x.2.2.2 x0)]) hx (dc kX12_laysTables_0 10 rfl) rfl (hn 1 (by decide)) [0] rfl ⟨⟨show (0 : Nat) ≠ 1 by decide, Or.inr (vR_cat _ _)⟩, trivial⟩ rfl ?_
  exact j_sub [1, 0] rfl (hb23 x0 (0 : Int32) h9)

set_option maxHeartbeats 4000000 in
set_option maxRecDepth 100000 in
theorem sX12_init {x0 : Nat} (hvx0 : x0 ≠ 0) (l : Launch) (w : Wd) (h : Hp) (u : Hp) (hK : mX12_init x0 h = some u) : M1 l w mi_X12_init 5 [vR w x0] h u (none) := by
  refine M1.of (own := RX12) (T := fun _ r => r = u) hK (by decide +kernel) rfl (by first | (simp only [lg_lenR, lg_lenI, lg_lenL, lg_len0]; decide) | decide) (fun x hx hnl hhf hl hw hret hnm hQ h0e => ⟨?_, rfl⟩)
  subst hw
  subst hl
  have hR : Rt x h u (none) (none) := ⟨h0e, hhf, hret, hQ⟩
  have hn : ∀ i, i < 1 → i < x.2.2.1.1.1 := fun i hi => by rw [hnl]; exact hi
  have e0 : lv_args 0 [vR x.2.2.2 x0] = [(0, vR x.2.2.2 x0)] := by simp only [lv_argsR, lv_argsI, lv_argsL, lv_args0]
  rw [e0]
  unfold mX12_init
  refine j_aload_n (q := 1) hx (dc kX12_init_0 0 rfl) rfl 0 rfl rfl ?_
  refine j_obj (q := 4) hx (dc kX12_init_0 1 rfl) lo_X12_1 hvx0 (by decide) (Nat.zero_le _) rfl ?_
  refine j_aload_n (q := 5) hx (dc kX12_init_0 2 rfl) rfl 0 rfl rfl ?_
  refine j_sipush (q := 8) (v := (640 : Int32)) hx (dc kX12_init_0 3 rfl) (by decide) rfl ?_
  refine j_newarray50 (q := 10) hx (dc kX12_init_0 4 rfl) ac_I (by decide) (by decide) (by decide) rfl (fun v2 hvv2 h1 => ?_)
  refine w_sR (q := 13) hx (dc kX12_init_0 5 rfl) ff_X12_0 lk_X12_7 (Or.inr ⟨hnm, rfl, rfl, lt_X12_7⟩) rfl (fun h3 => ?_)
  refine j_aload_n (q := 14) hx (dc kX12_init_0 6 rfl) rfl 0 rfl rfl ?_
  refine j_sipush (q := 17) (v := (640 : Int32)) hx (dc kX12_init_0 7 rfl) (by decide) rfl ?_
  refine j_newarray50 (q := 19) hx (dc kX12_init_0 8 rfl) ac_I (by decide) (by decide) (by decide) rfl (fun v5 hvv5 h4 => ?_)
  refine w_sR (q := 22) hx (dc kX12_init_0 9 rfl) ff_X12_1 lk_X12_13 (Or.inr ⟨hnm, rfl, rfl, lt_X12_13⟩) rfl (fun h6 => ?_)
  refine j_aload_n (q := 23) hx (dc kX12_init_0 10 rfl) rfl 0 rfl rfl ?_
  refine j_bipush (q := 25) (v := (13 : Int32)) hx (dc kX12_init_0 11 rfl) (by decide) rfl ?_
  refine j_newarray51 (q := 27) hx (dc kX12_init_0 12 rfl) ac_J (by decide) (by decide) (by decide) rfl (fun v8 hvv8 h7 => ?_)
  refine w_sR (q := 30) hx (dc kX12_init_0 13 rfl) ff_X12_2 lk_X12_16 (Or.inr ⟨hnm, rfl, rfl, lt_X12_16⟩) rfl (fun h9 => ?_)
  refine j_aload_n (q := 31) hx (dc kX12_init_0 14 rfl) rfl 0 rfl rfl ?_
  refine j_bipush (q := 33) (v := (13 : Int32)) hx (dc kX12_init_0 15 rfl) (by decide) rfl ?_
  refine j_newarray51 (q := 35) hx (dc kX12_init_0 16 rfl) ac_J (by decide) (by decide) (by decide) rfl (fun v11 hvv11 h10 => ?_)
  refine w_sR (q := 38) hx (dc kX12_init_0 17 rfl) ff_X12_3 lk_X12_20 (Or.inr ⟨hnm, rfl, rfl, lt_X12_20⟩) rfl (fun h12 => ?_)
  refine j_aload_n (q := 39) hx (dc kX12_init_0 18 rfl) rfl 0 rfl rfl ?_
  refine j_bipush (q := 41) (v := (83 : Int32)) hx (dc kX12_init_0 19 rfl) (by decide) rfl ?_
  refine j_newarray50 (q := 43) hx (dc kX12_init_0 20 rfl) ac_I (by decide) (by decide) (by decide) rfl (fun v14 hvv14 h13 => ?_)
  refine w_sR (q := 46) hx (dc kX12_init_0 21 rfl) ff_X12_4 lk_X12_23 (Or.inr ⟨hnm, rfl, rfl, lt_X12_23⟩) rfl (fun h15 => ?_)
  refine j_aload_n (q := 47) hx (dc kX12_init_0 22 rfl) rfl 0 rfl rfl ?_
  refine j_sipush (q := 50) (v := (1328 : Int32)) hx (dc kX12_init_0 23 rfl) (by decide) rfl ?_
  refine j_newarray50 (q := 52) hx (dc kX12_init_0 24 rfl) ac_I (by decide) (by decide) (by decide) rfl (fun v17 hvv17 h16 => ?_)
  refine w_sR (q := 55) hx (dc kX12_init_0 25 rfl) ff_X12_5 lk_X12_26 (Or.inr ⟨hnm, rfl, rfl, lt_X12_26⟩) rfl (fun h18 => ?_)
  refine j_aload_n (q := 56) hx (dc kX12_init_0 26 rfl) rfl 0 rfl rfl ?_
  refine j_sipush (q := 59) (v := (166 : Int32)) hx (dc kX12_init_0 27 rfl) (by decide) rfl ?_
  refine j_newarray50 (q := 61) hx (dc kX12_init_0 28 rfl) ac_I (by decide) (by decide) (by decide) rfl (fun v20 hvv20 h19 => ?_)
  refine w_sR (q := 64) hx (dc kX12_init_0 29 rfl) ff_X12_6 lk_X12_29 (Or.inr ⟨hnm, rfl, rfl, lt_X12_29⟩) rfl (fun h21 => ?_)
  refine j_aload_n (q := 65) hx (dc kX12_init_0 30 rfl) rfl 0 rfl rfl ?_
  refine j_iconst (q := 66) (v := (2 : Int32)) hx (dc kX12_init_0 31 rfl) (by decide) rfl ?_
  refine j_newarray52 (q := 68) hx (dc kX12_init_0 32 rfl) ac_Z (by decide) (by decide) (by decide) rfl (fun v23 hvv23 h22 => ?_)
  refine w_sR (q := 71) hx (dc kX12_init_0 33 rfl) ff_X12_7 lk_X12_32 (Or.inr ⟨hnm, rfl, rfl, lt_X12_32⟩) rfl (fun h24 => ?_)
  refine j_aload_n (q := 72) hx (dc kX12_init_0 34 rfl) rfl 0 rfl rfl ?_
  refine j_sipush (q := 75) (v := (480 : Int32)) hx (dc kX12_init_0 35 rfl) (by decide) rfl ?_
  refine j_newarray50 (q := 77) hx (dc kX12_init_0 36 rfl) ac_I (by decide) (by decide) (by decide) rfl (fun v26 hvv26 h25 => ?_)
  refine w_sR (q := 80) hx (dc kX12_init_0 37 rfl) ff_X12_9 lk_X12_36 (Or.inr ⟨hnm, rfl, rfl, lt_X12_36⟩) rfl (fun h27 => ?_)
  refine j_aload_n (q := 81) hx (dc kX12_init_0 38 rfl) rfl 0 rfl rfl ?_
  refine j_iconst (q := 82) (v := (-1 : Int32)) hx (dc kX12_init_0 39 rfl) (by decide) rfl ?_
  refine w_sI (q := 85) hx (dc kX12_init_0 40 rfl) ff_X12_20 rfl lk_X12_39 (Or.inl rfl) rfl (fun h28 => ?_)
  refine j_aload_n (q := 86) hx (dc kX12_init_0 41 rfl) rfl 0 rfl rfl ?_
  refine j_sipush (q := 89) (v := (490 : Int32)) hx (dc kX12_init_0 42 rfl) (by decide) rfl ?_
  refine j_newarray50 (q := 91) hx (dc kX12_init_0 43 rfl) ac_I (by decide) (by decide) (by decide) rfl (fun v30 hvv30 h29 => ?_)
  refine w_sR (q := 94) hx (dc kX12_init_0 44 rfl) ff_X12_23 lk_X12_43 (Or.inr ⟨hnm, rfl, rfl, lt_X12_43⟩) rfl (fun h31 => ?_)
  refine j_aload_n (q := 95) hx (dc kX12_init_0 45 rfl) rfl 0 rfl rfl ?_
  refine j_bipush (q := 97) (v := (8 : Int32)) hx (dc kX12_init_0 46 rfl) (by decide) rfl ?_
  refine j_newarray50 (q := 99) hx (dc kX12_init_0 47 rfl) ac_I (by decide) (by decide) (by decide) rfl (fun v33 hvv33 h32 => ?_)
  refine w_sR (q := 102) hx (dc kX12_init_0 48 rfl) ff_X12_24 lk_X12_46 (Or.inr ⟨hnm, rfl, rfl, lt_X12_46⟩) rfl (fun h34 => ?_)
  refine j_aload_n (q := 103) hx (dc kX12_init_0 49 rfl) rfl 0 rfl rfl ?_
  refine j_sipush (q := 106) (v := (256 : Int32)) hx (dc kX12_init_0 50 rfl) (by decide) rfl ?_
  refine j_newarray50 (q := 108) hx (dc kX12_init_0 51 rfl) ac_I (by decide) (by decide) (by decide) rfl (fun v36 hvv36 h35 => ?_)
  refine w_sR (q := 111) hx (dc kX12_init_0 52 rfl) ff_X12_25 lk_X12_49 (Or.inr ⟨hnm, rfl, rfl, lt_X12_49⟩) rfl (fun h37 => ?_)
  refine j_aload_n (q := 112) hx (dc kX12_init_0 53 rfl) rfl 0 rfl rfl ?_
  refine j_bipush (q := 114) (v := (40 : Int32)) hx (dc kX12_init_0 54 rfl) (by decide) rfl ?_
  refine j_newarray50 (q := 116) hx (dc kX12_init_0 55 rfl) ac_I (by decide) (by decide) (by decide) rfl (fun v39 hvv39 h38 => ?_)
  refine w_sR (q := 119) hx (dc kX12_init_0 56 rfl) ff_X12_26 lk_X12_52 (Or.inr ⟨hnm, rfl, rfl, lt_X12_52⟩) rfl (fun h40 => ?_)
  refine j_aload_n (q := 120) hx (dc kX12_init_0 57 rfl) rfl 0 rfl rfl ?_
  refine j_bipush (q := 122) (v := (8 : Int32)) hx (dc kX12_init_0 58 rfl) (by decide) rfl ?_
  refine j_newarray50 (q := 124) hx (dc kX12_init_0 59 rfl) ac_I (by decide) (by decide) (by decide) rfl (fun v42 hvv42 h41 => ?_)
  refine w_sR (q := 127) hx (dc kX12_init_0 60 rfl) ff_X12_27 lk_X12_55 (Or.inr ⟨hnm, rfl, rfl, lt_X12_55⟩) rfl (fun h43 => ?_)
  refine j_aload_n (q := 128) hx (dc kX12_init_0 61 rfl) rfl 0 rfl rfl ?_
  refine j_bipush (q := 130) (v := (8 : Int32)) hx (dc kX12_init_0 62 rfl) (by decide) rfl ?_
  refine j_newarray50 (q := 132) hx (dc kX12_init_0 63 rfl) ac_I (by decide) (by decide) (by decide) rfl (fun v45 hvv45 h44 => ?_)
  refine w_sR (q := 135) hx (dc kX12_init_1 0 rfl) ff_X12_28 lk_X12_58 (Or.inr ⟨hnm, rfl, rfl, lt_X12_58⟩) rfl (fun h46 => ?_)
  refine j_aload_n (q := 136) hx (dc kX12_init_1 1 rfl) rfl 0 rfl rfl ?_
  refine j_bipush (q := 138) (v := (8 : Int32)) hx (dc kX12_init_1 2 rfl) (by decide) rfl ?_
  refine j_newarray50 (q := 140) hx (dc kX12_init_1 3 rfl) ac_I (by decide) (by decide) (by decide) rfl (fun v48 hvv48 h47 => ?_)
  refine w_sR (q := 143) hx (dc kX12_init_1 4 rfl) ff_X12_29 lk_X12_61 (Or.inr ⟨hnm, rfl, rfl, lt_X12_61⟩) rfl (fun h49 => ?_)
  refine j_aload_n (q := 144) hx (dc kX12_init_1 5 rfl) rfl 0 rfl rfl ?_
  refine j_bipush (q := 146) (v := (8 : Int32)) hx (dc kX12_init_1 6 rfl) (by decide) rfl ?_
  refine j_newarray50 (q := 148) hx (dc kX12_init_1 7 rfl) ac_I (by decide) (by decide) (by decide) rfl (fun v51 hvv51 h50 => ?_)
  refine w_sR (q := 151) hx (dc kX12_init_1 8 rfl) ff_X12_30 lk_X12_64 (Or.inr ⟨hnm, rfl, rfl, lt_X12_64⟩) rfl (fun h52 => ?_)
  refine j_aload_n (q := 152) hx (dc kX12_init_1 9 rfl) rfl 0 rfl rfl ?_
  refine j_sipush (q := 155) (v := (6561 : Int32)) hx (dc kX12_init_1 10 rfl) (by decide) rfl ?_
  refine j_newarray50 (q := 157) hx (dc kX12_init_1 11 rfl) ac_I (by decide) (by decide) (by decide) rfl (fun v54 hvv54 h53 => ?_)
  refine w_sR (q := 160) hx (dc kX12_init_1 12 rfl) ff_X12_33 lk_X12_67 (Or.inr ⟨hnm, rfl, rfl, lt_X12_67⟩) rfl (fun h55 => ?_)
  refine j_aload_n (q := 161) hx (dc kX12_init_1 13 rfl) rfl 0 rfl rfl ?_
  refine j_sipush (q := 164) (v := (6561 : Int32)) hx (dc kX12_init_1 14 rfl) (by decide) rfl ?_
  refine j_newarray50 (q := 166) hx (dc kX12_init_1 15 rfl) ac_I (by decide) (by decide) (by decide) rfl (fun v57 hvv57 h56 => ?_)
  refine w_sR (q := 169) hx (dc kX12_init_1 16 rfl) ff_X12_34 lk_X12_70 (Or.inr ⟨hnm, rfl, rfl, lt_X12_70⟩) rfl (fun h58 => ?_)
  refine j_aload_n (q := 170) hx (dc kX12_init_1 17 rfl) rfl 0 rfl rfl ?_
  refine j_sipush (q := 173) (v := (6561 : Int32)) hx (dc kX12_init_1 18 rfl) (by decide) rfl ?_
  refine j_newarray50 (q := 175) hx (dc kX12_init_1 19 rfl) ac_I (by decide) (by decide) (by decide) rfl (fun v60 hvv60 h59 => ?_)
  refine w_sR (q := 178) hx (dc kX12_init_1 20 rfl) ff_X12_35 lk_X12_73 (Or.inr ⟨hnm, rfl, rfl, lt_X12_73⟩) rfl (fun h61 => ?_)
  refine j_aload_n (q := 179) hx (dc kX12_init_1 21 rfl) rfl 0 rfl rfl ?_
  refine j_sipush (q := 182) (v := (256 : Int32)) hx (dc kX12_init_1 22 rfl) (by decide) rfl ?_
  refine j_newarray50 (q := 184) hx (dc kX12_init_1 23 rfl) ac_I (by decide) (by decide) (by decide) rfl (fun v63 hvv63 h62 => ?_)
  refine w_sR (q := 187) hx (dc kX12_init_1 24 rfl) ff_X12_38 lk_X12_76 (Or.inr ⟨hnm, rfl, rfl, lt_X12_76⟩) rfl (fun h64 => ?_)
  refine j_aload_n (q := 188) hx (dc kX12_init_1 25 rfl) rfl 0 rfl rfl ?_
  refine w_gR (q := 191) hx (dc kX12_init_1 26 rfl) ff_X12_0 lk_X12_7 rfl (fun v65 => ?_)
  refine j_iconst (q := 192) (v := (5 : Int32)) hx (dc kX12_init_1 27 rfl) (by decide) rfl ?_
  refine j_sipush (q := 195) (v := (300 : Int32)) hx (dc kX12_init_1 28 rfl) (by decide) rfl ?_
  refine w_stI (q := 196) hx (dc kX12_init_1 29 rfl) rfl (fun h66 => ?_)
  refine j_aload_n (q := 197) hx (dc kX12_init_1 30 rfl) rfl 0 rfl rfl ?_
  refine w_cVVW (q := 200) (As := []) (st := []) hx (dc kX12_init_1 31 rfl) cf12 (by decide) rfl (cI _ my_X12_laysTables lm_X12_79 (by decide)) vs_X12_laysTables rfl (fun u hu => sX12_laysTables _ _ _ _ _ hu) (fun e => ite_ne (by unfold mX12_laysTables at e; exact e)) (Nat.zero_le _) rfl (fun h68 => ?_)
  exact r_vW hx hR (dc kX12_init_1 32 rfl)

set_option maxHeartbeats 4000000 in
set_option maxRecDepth 100000 in
theorem sX12_in (l : Launch) (w : Wd) (x0 : Int32) (x1 : Int32) (x2 : Int32) (h : Hp) (u : Int32) (hK : mX12_in x0 x1 x2 = some u) : M1 l w mi_X12_in 1 [.int x0, .int x1, .int x2] h h (some (.int u)) := by
  refine M1.of (own := RX12) (T := fun _ r => r = u) hK (by decide +kernel) rfl (by first | (simp only [lg_lenR, lg_lenI, lg_lenL, lg_len0]; decide) | decide) (fun x hx hnl hhf hl hw hret hnm hQ h0e => ⟨?_, rfl⟩)
  subst hw
  subst hl
  have hR : Rt x h h (some (.int u)) ((some .boolean)) := ⟨h0e, hhf, hret, hQ⟩
  have hn : ∀ i, i < 3 → i < x.2.2.1.1.1 := fun i hi => by rw [hnl]; exact hi
  have e0 : lv_args 0 [.int x0, .int x1, .int x2] = [(0, .int x0), (1, .int x1), (2, .int x2)] := by simp only [lv_argsR, lv_argsI, lv_argsL, lv_args0]
  rw [e0]
  unfold mX12_in
  refine j_iload_n (q := 1) hx (dc kX12_in_0 0 rfl) rfl 0 rfl rfl ?_
  refine j_iload_n (q := 2) hx (dc kX12_in_0 1 rfl) rfl 1 rfl rfl ?_
  refine j_icmp_lt (q := 5) (tgt := 14) hx (dc kX12_in_0 2 rfl) (by decide) Iff.rfl rfl ?_ ?_
  · refine j_iconst (q := 15) (v := (0 : Int32)) hx (dc kX12_in_0 8 rfl) (by decide) rfl ?_
    exact r_cR hx (Or.inl rfl) hR (dc kX12_in_0 9 rfl)
  · refine j_iload_n (q := 6) hx (dc kX12_in_0 3 rfl) rfl 0 rfl rfl ?_
    refine j_iload_n (q := 7) hx (dc kX12_in_0 4 rfl) rfl 2 rfl rfl ?_
    refine j_icmp_gt (q := 10) (tgt := 14) hx (dc kX12_in_0 5 rfl) (by decide) Iff.rfl rfl ?_ ?_
    · refine j_iconst (q := 15) (v := (0 : Int32)) hx (dc kX12_in_0 8 rfl) (by decide) rfl ?_
      exact r_cR hx (Or.inl rfl) hR (dc kX12_in_0 9 rfl)
    · refine j_iconst (q := 11) (v := (1 : Int32)) hx (dc kX12_in_0 6 rfl) (by decide) rfl ?_
      refine j_goto (q := 15) hx (dc kX12_in_0 7 rfl) (by decide) ?_
      exact r_cR hx (Or.inr rfl) hR (dc kX12_in_0 9 rfl)

set_option maxHeartbeats 4000000 in
set_option maxRecDepth 100000 in
theorem sX12_has (l : Launch) (w : Wd) (x0 : Int32) (x1 : Int32) (h : Hp) (u : Int32) (hK : mX12_has x0 x1 = some u) : M1 l w mi_X12_has 1 [.int x0, .int x1] h h (some (.int u)) := by
  refine M1.of (own := RX12) (T := fun _ r => r = u) hK (by decide +kernel) rfl (by first | (simp only [lg_lenR, lg_lenI, lg_lenL, lg_len0]; decide) | decide) (fun x hx hnl hhf hl hw hret hnm hQ h0e => ⟨?_, rfl⟩)
  subst hw
  subst hl
  have hR : Rt x h h (some (.int u)) ((some .boolean)) := ⟨h0e, hhf, hret, hQ⟩
  have hn : ∀ i, i < 2 → i < x.2.2.1.1.1 := fun i hi => by rw [hnl]; exact hi
  have e0 : lv_args 0 [.int x0, .int x1] = [(0, .int x0), (1, .int x1)] := by simp only [lv_argsR, lv_argsI, lv_argsL, lv_args0]
  rw [e0]
  unfold mX12_has
  refine j_iload_n (q := 1) hx (dc kX12_has_0 0 rfl) rfl 0 rfl rfl ?_
  refine j_iload_n (q := 2) hx (dc kX12_has_0 1 rfl) rfl 1 rfl rfl ?_
  refine j_ishr (q := 3) hx (dc kX12_has_0 2 rfl) rfl ?_
  refine j_iconst (q := 4) (v := (1 : Int32)) hx (dc kX12_has_0 3 rfl) (by decide) rfl ?_
  refine j_iand (q := 5) hx (dc kX12_has_0 4 rfl) rfl ?_
  refine j_iconst (q := 6) (v := (1 : Int32)) hx (dc kX12_has_0 5 rfl) (by decide) rfl ?_
  refine j_icmp_neS (q := 9) (tgt := 13) hx (dc kX12_has_0 6 rfl) (by decide) rfl ?_ ?_
  · refine j_iconst (q := 14) (v := (0 : Int32)) hx (dc kX12_has_0 9 rfl) (by decide) rfl ?_
    exact r_cR hx (Or.inl rfl) hR (dc kX12_has_0 10 rfl)
  · refine j_iconst (q := 10) (v := (1 : Int32)) hx (dc kX12_has_0 7 rfl) (by decide) rfl ?_
    refine j_goto (q := 14) hx (dc kX12_has_0 8 rfl) (by decide) ?_
    exact r_cR hx (Or.inr rfl) hR (dc kX12_has_0 10 rfl)

set_option maxHeartbeats 4000000 in
set_option maxRecDepth 100000 in
theorem sX12_bits (l : Launch) (w : Wd) (x0 : Int32) (h : Hp) (u : Int32) (hK : mX12_bits x0 = some u) : M1 l w mi_X12_bits 1 [.int x0] h h (some (.int u)) := by
  refine M1.of (own := RX12) (T := fun _ r => r = u) hK (by decide +kernel) rfl (by first | (simp only [lg_lenR, lg_lenI, lg_lenL, lg_len0]; decide) | decide) (fun x hx hnl hhf hl hw hret hnm hQ h0e => ⟨?_, rfl⟩)
  subst hw
  subst hl
  have hR : Rt x h h (some (.int u)) ((some .int)) := ⟨h0e, hhf, hret, hQ⟩
  have hn : ∀ i, i < 3 → i < x.2.2.1.1.1 := fun i hi => by rw [hnl]; exact hi
  have e0 : lv_args 0 [.int x0] = [(0, .int x0)] := by simp only [lv_argsR, lv_argsI, lv_argsL, lv_args0]
  rw [e0]
  have hb4 : ∀ (x1 : Int32) (x2 : Int32), J x 4 [(1, .int x1), (2, .int x2)] [] h (mX12_bits_l4 x1 x2) (fun r => r = u) := by
    intro x1 x2
    have hB : ∀ (x1 : Int32) (x2 : Int32), J x 4 [(1, .int x1), (2, .int x2)] [] h (mX12_bits_l4f x1 x2) (TL (S := (Int32 × Int32)) x 4 (fun s => [(1, .int s.1), (2, .int s.2)]) [] (fun s => h) (fun r => r = u)) := by
      intro x1 x2
      unfold mX12_bits_l4f
      refine j_iload_n (q := 5) hx (dc kX12_bits_0 4 rfl) rfl 1 rfl rfl ?_
      refine j_if_eq (q := 8) (tgt := 20) hx (dc kX12_bits_0 5 rfl) (by decide) Iff.rfl rfl ?_ ?_
      · refine j_exit ?_
        refine j_iload_n (q := 21) hx (dc kX12_bits_0 14 rfl) rfl 0 rfl rfl ?_
        exact r_iR hx hR (dc kX12_bits_0 15 rfl)
      · refine j_iinc (q := 11) (l2 := [(2, .int x2)]) hx (dc kX12_bits_0 6 rfl) 0 rfl (v := (1 : Int32)) (by decide) (hn 1 (by decide)) [1] rfl ⟨⟨show (2 : Nat) ≠ 1 by decide, Or.inl (show (2 : Nat) + 1 ≠ 1 by decide)⟩, trivial⟩ rfl ?_
        refine j_iload_n (q := 12) hx (dc kX12_bits_0 7 rfl) rfl 1 rfl rfl ?_
        refine j_iload_n (q := 13) hx (dc kX12_bits_0 8 rfl) rfl 1 rfl rfl ?_
        refine j_iconst (q := 14) (v := (1 : Int32)) hx (dc kX12_bits_0 9 rfl) (by decide) rfl ?_
        refine j_isub (q := 15) hx (dc kX12_bits_0 10 rfl) rfl ?_
        refine j_iand (q := 16) hx (dc kX12_bits_0 11 rfl) rfl ?_
        refine j_istore_n (q := 17) (i := 2) (l2 := [(1, .int (x1 + (1 : Int32)))]) hx (dc kX12_bits_0 12 rfl) rfl (hn 2 (by decide)) [0] rfl ⟨⟨show (1 : Nat) ≠ 2 by decide, Or.inr rfl⟩, trivial⟩ rfl ?_
        refine j_goto (q := 4) hx (dc kX12_bits_0 13 rfl) (by decide) ?_
        exact j_back [1, 0] ((x1 + (1 : Int32)), (x2 &&& (x2 - (1 : Int32)))) rfl rfl
    exact j_loop (S := (Int32 × Int32)) (lvf := fun s => [(1, .int s.1), (2, .int s.2)]) (hpf := fun s => h) (f := (fun s : (Int32 × Int32) => mX12_bits_l4f s.1 s.2)) (fun s => hB s.1 s.2) (x1, x2)
  unfold mX12_bits
  refine j_iconst (q := 1) (v := (0 : Int32)) hx (dc kX12_bits_0 0 rfl) (by decide) rfl ?_
  refine j_istore_n (q := 2) (i := 1) (l2 := [(0, .int x0)]) hx (dc kX12_bits_0 1 rfl) rfl (hn 1 (by decide)) [0] rfl ⟨⟨show (0 : Nat) ≠ 1 by decide, Or.inr rfl⟩, trivial⟩ rfl ?_
  refine j_iload_n (q := 3) hx (dc kX12_bits_0 2 rfl) rfl 1 rfl rfl ?_
  refine j_istore_n (q := 4) (i := 2) (l2 := [(1, .int (0 : Int32))]) hx (dc kX12_bits_0 3 rfl) rfl (hn 2 (by decide)) [0] rfl ⟨⟨show (1 : Nat) ≠ 2 by decide, Or.inr rfl⟩, trivial⟩ rfl ?_
  exact j_sub [1, 0] rfl (hb4 (0 : Int32) x0)

set_option maxHeartbeats 4000000 in
set_option maxRecDepth 100000 in
theorem sX12_sign (l : Launch) (w : Wd) (x0 : Nat) (x1 : Int32) (h : Hp) (u : (Int32 × Hp)) (hK : mX12_sign x0 x1 h = some u) : M1 l w mi_X12_sign 1 [vR w x0, .int x1] h u.2 (some (.int u.1)) := by
  refine M1.of (own := RX12) (T := fun _ r => r = u) hK (by decide +kernel) rfl (by first | (simp only [lg_lenR, lg_lenI, lg_lenL, lg_len0]; decide) | decide) (fun x hx hnl hhf hl hw hret hnm hQ h0e => ⟨?_, rfl⟩)
  subst hw
  subst hl
  have hR : Rt x h u.2 (some (.int u.1)) ((some .int)) := ⟨h0e, hhf, hret, hQ⟩
  have hn : ∀ i, i < 3 → i < x.2.2.1.1.1 := fun i hi => by rw [hnl]; exact hi
  have e0 : lv_args 0 [vR x.2.2.2 x0, .int x1] = [(0, vR x.2.2.2 x0), (1, .int x1)] := by simp only [lv_argsR, lv_argsI, lv_argsL, lv_args0]
  rw [e0]
  have hb17 : ∀ (x0 : Nat) (x1 : Int32) (x2 : Int32) (h : Hp), J x 17 [(0, vR x.2.2.2 x0), (1, .int x1), (2, .int x2)] [] h (mX12_sign_l17 x0 x1 x2 h) (fun r => r = u) := by
    intro x0 x1 x2 h
    have hB : ∀ (x2 : Int32) (h : Hp), J x 17 [(0, vR x.2.2.2 x0), (1, .int x1), (2, .int x2)] [] h (mX12_sign_l17f x0 x1 x2 h) (TL (S := (Int32 × Hp)) x 17 (fun s => [(0, vR x.2.2.2 x0), (1, .int x1), (2, .int s.1)]) [] (fun s => s.2) (fun r => r = u)) := by
      intro x2 h
      unfold mX12_sign_l17f
      refine j_iload_n (q := 18) hx (dc kX12_sign_0 10 rfl) rfl 2 rfl rfl ?_
      refine j_if_lt (q := 21) (tgt := 53) hx (dc kX12_sign_0 11 rfl) (by decide) Iff.rfl rfl ?_ ?_
      · refine j_exit ?_
        refine j_aload_n (q := 54) hx (dc kX12_sign_0 30 rfl) rfl 0 rfl rfl ?_
        refine w_gI (q := 57) hx (dc kX12_sign_0 31 rfl) ff_X12_10 lk_X12_82 rfl (fun v2 => ?_)
        exact r_iW hx hR (dc kX12_sign_0 32 rfl)
      · refine j_aload_n (q := 22) hx (dc kX12_sign_0 12 rfl) rfl 0 rfl rfl ?_
        refine w_gR (q := 25) hx (dc kX12_sign_0 13 rfl) ff_X12_9 lk_X12_36 rfl (fun v3 => ?_)
        refine j_aload_n (q := 26) hx (dc kX12_sign_0 14 rfl) rfl 0 rfl rfl ?_
        refine w_gI (q := 29) hx (dc kX12_sign_0 15 rfl) ff_X12_10 lk_X12_82 rfl (fun v4 => ?_)
        refine j_iload_n (q := 30) hx (dc kX12_sign_0 16 rfl) rfl 1 rfl rfl ?_
        refine j_iload_n (q := 31) hx (dc kX12_sign_0 17 rfl) rfl 2 rfl rfl ?_
        refine j_ishr (q := 32) hx (dc kX12_sign_0 18 rfl) rfl ?_
        refine j_sipush (q := 35) (v := (255 : Int32)) hx (dc kX12_sign_0 19 rfl) (by decide) rfl ?_
        refine j_iand (q := 36) hx (dc kX12_sign_0 20 rfl) rfl ?_
        refine w_stI (q := 37) hx (dc kX12_sign_0 21 rfl) rfl (fun h5 => ?_)
        refine j_aload_n (q := 38) hx (dc kX12_sign_0 22 rfl) rfl 0 rfl rfl ?_
        refine j_dup (q := 39) hx (dc kX12_sign_0 23 rfl) (vR_cat _ _) rfl ?_
        refine w_gI (q := 42) hx (dc kX12_sign_0 24 rfl) ff_X12_10 lk_X12_82 rfl (fun v6 => ?_)
        refine j_iconst (q := 43) (v := (1 : Int32)) hx (dc kX12_sign_0 25 rfl) (by decide) rfl ?_
        refine j_iadd (q := 44) hx (dc kX12_sign_0 26 rfl) rfl ?_
        refine w_sI (q := 47) hx (dc kX12_sign_0 27 rfl) ff_X12_10 rfl lk_X12_82 (Or.inl rfl) rfl (fun h7 => ?_)
        refine j_iinc (q := 50) (l2 := [(0, vR x.2.2.2 x0), (1, .int x1)]) hx (dc kX12_sign_0 28 rfl) 2 rfl (v := (-8 : Int32)) (by decide) (hn 2 (by decide)) [0, 1] rfl ⟨⟨show (0 : Nat) ≠ 2 by decide, Or.inl (show (0 : Nat) + 1 ≠ 2 by decide)⟩, ⟨⟨show (1 : Nat) ≠ 2 by decide, Or.inr rfl⟩, trivial⟩⟩ rfl ?_
        refine j_goto (q := 17) hx (dc kX12_sign_0 29 rfl) (by decide) ?_
        exact j_back [1, 2, 0] ((x2 + (-8 : Int32)), h7) rfl rfl
    exact j_loop (S := (Int32 × Hp)) (lvf := fun s => [(0, vR x.2.2.2 x0), (1, .int x1), (2, .int s.1)]) (hpf := fun s => s.2) (f := (fun s : (Int32 × Hp) => mX12_sign_l17f x0 x1 s.1 s.2)) (fun s => hB s.1 s.2) (x2, h)
  unfold mX12_sign
  refine J.ckd fun hck => ?_
  refine j_aload_n (q := 1) hx (dc kX12_sign_0 0 rfl) rfl 0 rfl rfl ?_
  refine w_gI (q := 4) hx (dc kX12_sign_0 1 rfl) ff_X12_10 lk_X12_82 rfl (fun v1 => ?_)
  refine j_iconst (q := 5) (v := (4 : Int32)) hx (dc kX12_sign_0 2 rfl) (by decide) rfl ?_
  refine j_iadd (q := 6) hx (dc kX12_sign_0 3 rfl) rfl ?_
  refine j_sipush (q := 9) (v := (480 : Int32)) hx (dc kX12_sign_0 4 rfl) (by decide) rfl ?_
  refine j_icmp_leS (q := 12) (tgt := 14) hx (dc kX12_sign_0 5 rfl) (by decide) rfl ?_ ?_
  · refine j_bipush (q := 16) (v := (24 : Int32)) hx (dc kX12_sign_0 8 rfl) (by decide) rfl ?_
    refine j_istore_n (q := 17) (i := 2) (l2 := [(0, vR x.2.2.2 x0), (1, .int x1)]) hx (dc kX12_sign_0 9 rfl) rfl (hn 2 (by decide)) [0, 1] rfl ⟨⟨show (0 : Nat) ≠ 2 by decide, Or.inl (show (0 : Nat) + 1 ≠ 2 by decide)⟩, ⟨⟨show (1 : Nat) ≠ 2 by decide, Or.inr rfl⟩, trivial⟩⟩ rfl ?_
    exact j_sub [1, 2, 0] rfl (hb17 x0 x1 (24 : Int32) h)
  · refine j_iconst (q := 13) (v := (-1 : Int32)) hx (dc kX12_sign_0 6 rfl) (by decide) rfl ?_
    exact r_iW hx hR (dc kX12_sign_0 7 rfl)

set_option maxHeartbeats 4000000 in
set_option maxRecDepth 100000 in
theorem sX12_end (l : Launch) (w : Wd) (x0 : Nat) (x1 : Int32) (h : Hp) (u : (Int32 × Hp)) (hK : mX12_end x0 x1 h = some u) : M1 l w mi_X12_end 2 [vR w x0, .int x1] h u.2 (some (.int u.1)) := by
  refine M1.of (own := RX12) (T := fun _ r => r = u) hK (by decide +kernel) rfl (by first | (simp only [lg_lenR, lg_lenI, lg_lenL, lg_len0]; decide) | decide) (fun x hx hnl hhf hl hw hret hnm hQ h0e => ⟨?_, rfl⟩)
  subst hw
  subst hl
  have hR : Rt x h u.2 (some (.int u.1)) ((some .boolean)) := ⟨h0e, hhf, hret, hQ⟩
  have hn : ∀ i, i < 2 → i < x.2.2.1.1.1 := fun i hi => by rw [hnl]; exact hi
  have e0 : lv_args 0 [vR x.2.2.2 x0, .int x1] = [(0, vR x.2.2.2 x0), (1, .int x1)] := by simp only [lv_argsR, lv_argsI, lv_argsL, lv_args0]
  rw [e0]
  unfold mX12_end
  refine J.ckd fun hck => ?_
  refine j_iload_n (q := 1) hx (dc kX12_end_0 0 rfl) rfl 1 rfl rfl ?_
  refine j_iconst (q := 2) (v := (0 : Int32)) hx (dc kX12_end_0 1 rfl) (by decide) rfl ?_
  refine j_aload_n (q := 3) hx (dc kX12_end_0 2 rfl) rfl 0 rfl rfl ?_
  refine w_gI (q := 6) hx (dc kX12_end_0 3 rfl) ff_X12_10 lk_X12_82 rfl (fun v1 => ?_)
  refine w_cSIR (q := 9) (As := [.int x1, .int (0 : Int32), .int v1]) (st := []) hx (dc kX12_end_0 4 rfl) (cI _ my_X12_in lm_X12_85 (by decide)) st_X12_in rfl (fun u hu => sX12_in _ _ _ _ _ _ _ hu) (Nat.zero_le _) rfl (fun v2 => ?_)
  refine j_if_neS (q := 12) (tgt := 14) hx (dc kX12_end_0 5 rfl) (by decide) rfl ?_ ?_
  · refine j_aload_n (q := 15) hx (dc kX12_end_0 8 rfl) rfl 0 rfl rfl ?_
    refine j_iload_n (q := 16) hx (dc kX12_end_0 9 rfl) rfl 1 rfl rfl ?_
    refine w_sI (q := 19) hx (dc kX12_end_0 10 rfl) ff_X12_10 rfl lk_X12_82 (Or.inl rfl) rfl (fun h4 => ?_)
    refine j_iconst (q := 20) (v := (1 : Int32)) hx (dc kX12_end_0 11 rfl) (by decide) rfl ?_
    exact r_cW hx (Or.inr rfl) hR (dc kX12_end_0 12 rfl)
  · refine j_iconst (q := 13) (v := (0 : Int32)) hx (dc kX12_end_0 6 rfl) (by decide) rfl ?_
    exact r_cW hx (Or.inl rfl) hR (dc kX12_end_0 7 rfl)

set_option maxHeartbeats 4000000 in
set_option maxRecDepth 100000 in
theorem sX12_see (l : Launch) (w : Wd) (x0 : Nat) (x1 : Int32) (h : Hp) (u : Int32) (hK : mX12_see x0 x1 h = some u) : M1 l w mi_X12_see 1 [vR w x0, .int x1] h h (some (.int u)) := by
  refine M1.of (own := RX12) (T := fun _ r => r = u) hK (by decide +kernel) rfl (by first | (simp only [lg_lenR, lg_lenI, lg_lenL, lg_len0]; decide) | decide) (fun x hx hnl hhf hl hw hret hnm hQ h0e => ⟨?_, rfl⟩)
  subst hw
  subst hl
  have hR : Rt x h h (some (.int u)) ((some .int)) := ⟨h0e, hhf, hret, hQ⟩
  have hn : ∀ i, i < 2 → i < x.2.2.1.1.1 := fun i hi => by rw [hnl]; exact hi
  have e0 : lv_args 0 [vR x.2.2.2 x0, .int x1] = [(0, vR x.2.2.2 x0), (1, .int x1)] := by simp only [lv_argsR, lv_argsI, lv_argsL, lv_args0]
  rw [e0]
  unfold mX12_see
  refine J.ckd fun hck => ?_
  refine j_iload_n (q := 1) hx (dc kX12_see_0 0 rfl) rfl 1 rfl rfl ?_
  refine j_aload_n (q := 2) hx (dc kX12_see_0 1 rfl) rfl 0 rfl rfl ?_
  refine w_gI (q := 5) hx (dc kX12_see_0 2 rfl) ff_X12_11 lk_X12_89 rfl (fun v1 => ?_)
  refine j_icmp_geS (q := 8) (tgt := 17) hx (dc kX12_see_0 3 rfl) (by decide) rfl ?_ ?_
  · refine j_iconst (q := 18) (v := (-1 : Int32)) hx (dc kX12_see_0 9 rfl) (by decide) rfl ?_
    exact r_iR hx hR (dc kX12_see_0 10 rfl)
  · refine j_aload_n (q := 9) hx (dc kX12_see_0 4 rfl) rfl 0 rfl rfl ?_
    refine w_gR (q := 12) hx (dc kX12_see_0 5 rfl) ff_X12_9 lk_X12_36 rfl (fun v2 => ?_)
    refine j_iload_n (q := 13) hx (dc kX12_see_0 6 rfl) rfl 1 rfl rfl ?_
    refine j_ldI (q := 14) hx (dc kX12_see_0 7 rfl) rfl (fun v3 => ?_)
    refine j_goto (q := 18) hx (dc kX12_see_0 8 rfl) (by decide) ?_
    exact r_iR hx hR (dc kX12_see_0 10 rfl)

set_option maxHeartbeats 4000000 in
set_option maxRecDepth 100000 in
theorem sX12_next (l : Launch) (w : Wd) (x0 : Nat) (h : Hp) (u : Hp) (hK : mX12_next x0 h = some u) : M1 l w mi_X12_next 2 [vR w x0] h u (none) := by
  refine M1.of (own := RX12) (T := fun _ r => r = u) hK (by decide +kernel) rfl (by first | (simp only [lg_lenR, lg_lenI, lg_lenL, lg_len0]; decide) | decide) (fun x hx hnl hhf hl hw hret hnm hQ h0e => ⟨?_, rfl⟩)
  subst hw
  subst hl
  have hR : Rt x h u (none) (none) := ⟨h0e, hhf, hret, hQ⟩
  have hn : ∀ i, i < 2 → i < x.2.2.1.1.1 := fun i hi => by rw [hnl]; exact hi
  have e0 : lv_args 0 [vR x.2.2.2 x0] = [(0, vR x.2.2.2 x0)] := by simp only [lv_argsR, lv_argsI, lv_argsL, lv_args0]
  rw [e0]
  have hb367 : ∀ (t0 : Nat) (t1 : Int32) (h : Hp), J x 367 [] [.int t1, vR x.2.2.2 t0] h (mX12_next_b367 t0 t1 h) (fun r => r = u) := by
    intro t0 t1 h
    unfold mX12_next_b367
    refine w_sI (q := 370) hx (dc kX12_next_2 60 rfl) ff_X12_14 rfl lk_X12_109 (Or.inl rfl) rfl (fun h23 => ?_)
    exact r_vW hx hR (dc kX12_next_2 61 rfl)
  have hb362 : ∀ (t0 : Nat) (h : Hp), J x 362 [] [vR x.2.2.2 t0] h (mX12_next_b362 t0 h) (fun r => r = u) := by
    intro t0 h
    unfold mX12_next_b362
    refine j_iconst (q := 363) (v := (4 : Int32)) hx (dc kX12_next_2 57 rfl) (by decide) rfl ?_
    refine j_goto (q := 367) hx (dc kX12_next_2 58 rfl) (by decide) ?_
    exact hb367 t0 (4 : Int32) h
  have hb298 : ∀ (t0 : Nat) (t1 : Int32) (h : Hp), J x 298 [] [.int t1, vR x.2.2.2 t0] h (mX12_next_b298 t0 t1 h) (fun r => r = u) := by
    intro t0 t1 h
    unfold mX12_next_b298
    refine w_sI (q := 301) hx (dc kX12_next_2 24 rfl) ff_X12_14 rfl lk_X12_109 (Or.inl rfl) rfl (fun h31 => ?_)
    refine j_goto (q := 370) hx (dc kX12_next_2 25 rfl) (by decide) ?_
    exact r_vW hx hR (dc kX12_next_2 61 rfl)
  have hb205 : ∀ (x0 : Nat) (h : Hp), J x 205 [(0, vR x.2.2.2 x0)] [] h (mX12_next_l205 x0 h) (fun r => r = u) := by
    intro x0 h
    have hB : ∀ (h : Hp), J x 205 [(0, vR x.2.2.2 x0)] [] h (mX12_next_l205f x0 h) (TL (S := Hp) x 205 (fun s => [(0, vR x.2.2.2 x0)]) [] (fun s => s) (fun r => r = u)) := by
      intro  h
      have hb263 : ∀ (x0 : Nat) (t0 : Nat) (t1 : Int32) (h : Hp), J x 263 [(0, vR x.2.2.2 x0)] [.int t1, vR x.2.2.2 t0] h (mX12_next_b263 x0 t0 t1 h) (TL (S := Hp) x 205 (fun s => [(0, vR x.2.2.2 x0)]) [] (fun s => s) (fun r => r = u)) := by
        intro x0 t0 t1 h
        unfold mX12_next_b263
        refine w_sI (q := 266) hx (dc kX12_next_2 5 rfl) ff_X12_15 rfl lk_X12_102 (Or.inl rfl) rfl (fun h35 => ?_)
        refine j_aload_n (q := 267) hx (dc kX12_next_2 6 rfl) rfl 0 rfl rfl ?_
        refine j_dup (q := 268) hx (dc kX12_next_2 7 rfl) (vR_cat _ _) rfl ?_
        refine w_gI (q := 271) hx (dc kX12_next_2 8 rfl) ff_X12_12 lk_X12_92 rfl (fun v36 => ?_)
        refine j_iconst (q := 272) (v := (1 : Int32)) hx (dc kX12_next_2 9 rfl) (by decide) rfl ?_
        refine j_iadd (q := 273) hx (dc kX12_next_2 10 rfl) rfl ?_
        refine w_sI (q := 276) hx (dc kX12_next_2 11 rfl) ff_X12_12 rfl lk_X12_92 (Or.inl rfl) rfl (fun h37 => ?_)
        refine j_goto (q := 205) hx (dc kX12_next_2 12 rfl) (by decide) ?_
        exact j_back [0] h37 rfl rfl
      unfold mX12_next_l205f
      refine j_aload_n (q := 206) hx (dc kX12_next_1 39 rfl) rfl 0 rfl rfl ?_
      refine j_aload_n (q := 207) hx (dc kX12_next_1 40 rfl) rfl 0 rfl rfl ?_
      refine w_gI (q := 210) hx (dc kX12_next_1 41 rfl) ff_X12_12 lk_X12_92 rfl (fun v24 => ?_)
      refine w_cVIR (q := 213) (As := [.int v24]) (st := []) hx (dc kX12_next_1 42 rfl) cf12 (by decide) rfl (cI _ my_X12_see lm_X12_95 (by decide)) vs_X12_see rfl (fun u hu => sX12_see _ _ _ _ _ _ hu) (fun e => ite_ne (by unfold mX12_see at e; exact e)) (Nat.zero_le _) rfl (fun v25 => ?_)
      refine j_bipush (q := 215) (v := (48 : Int32)) hx (dc kX12_next_1 43 rfl) (by decide) rfl ?_
      refine j_bipush (q := 217) (v := (57 : Int32)) hx (dc kX12_next_1 44 rfl) (by decide) rfl ?_
      refine w_cSIR (q := 220) (As := [.int v25, .int (48 : Int32), .int (57 : Int32)]) (st := []) hx (dc kX12_next_1 45 rfl) (cI _ my_X12_in lm_X12_85 (by decide)) st_X12_in rfl (fun u hu => sX12_in _ _ _ _ _ _ _ hu) (Nat.zero_le _) rfl (fun v27 => ?_)
      refine j_if_eq (q := 223) (tgt := 279) hx (dc kX12_next_1 46 rfl) (by decide) Iff.rfl rfl ?_ ?_
      · refine j_exit ?_
        refine j_aload_n (q := 280) hx (dc kX12_next_2 13 rfl) rfl 0 rfl rfl ?_
        refine j_aload_n (q := 281) hx (dc kX12_next_2 14 rfl) rfl 0 rfl rfl ?_
        refine w_gI (q := 284) hx (dc kX12_next_2 15 rfl) ff_X12_12 lk_X12_92 rfl (fun v29 => ?_)
        refine j_aload_n (q := 285) hx (dc kX12_next_2 16 rfl) rfl 0 rfl rfl ?_
        refine w_gI (q := 288) hx (dc kX12_next_2 17 rfl) ff_X12_13 lk_X12_99 rfl (fun v30 => ?_)
        refine j_isub (q := 289) hx (dc kX12_next_2 18 rfl) rfl ?_
        refine j_iconst (q := 290) (v := (3 : Int32)) hx (dc kX12_next_2 19 rfl) (by decide) rfl ?_
        refine j_icmp_leS (q := 293) (tgt := 297) hx (dc kX12_next_2 20 rfl) (by decide) rfl ?_ ?_
        · refine j_iconst (q := 298) (v := (3 : Int32)) hx (dc kX12_next_2 23 rfl) (by decide) rfl ?_
          exact j_sub [] rfl (hb298 x0 (3 : Int32) h)
        · refine j_iconst (q := 294) (v := (1 : Int32)) hx (dc kX12_next_2 21 rfl) (by decide) rfl ?_
          refine j_goto (q := 298) hx (dc kX12_next_2 22 rfl) (by decide) ?_
          exact j_sub [] rfl (hb298 x0 (1 : Int32) h)
      · refine j_aload_n (q := 224) hx (dc kX12_next_1 47 rfl) rfl 0 rfl rfl ?_
        refine j_aload_n (q := 225) hx (dc kX12_next_1 48 rfl) rfl 0 rfl rfl ?_
        refine w_gI (q := 228) hx (dc kX12_next_1 49 rfl) ff_X12_12 lk_X12_92 rfl (fun v32 => ?_)
        refine j_aload_n (q := 229) hx (dc kX12_next_1 50 rfl) rfl 0 rfl rfl ?_
        refine w_gI (q := 232) hx (dc kX12_next_1 51 rfl) ff_X12_13 lk_X12_99 rfl (fun v33 => ?_)
        refine j_isub (q := 233) hx (dc kX12_next_1 52 rfl) rfl ?_
        refine j_iconst (q := 234) (v := (3 : Int32)) hx (dc kX12_next_1 53 rfl) (by decide) rfl ?_
        refine j_icmp_geS (q := 237) (tgt := 259) hx (dc kX12_next_1 54 rfl) (by decide) rfl ?_ ?_
        · refine j_aload_n (q := 260) hx (dc kX12_next_2 3 rfl) rfl 0 rfl rfl ?_
          refine w_gI (q := 263) hx (dc kX12_next_2 4 rfl) ff_X12_15 lk_X12_102 rfl (fun v34 => ?_)
          exact hb263 x0 x0 v34 h
        · refine j_bipush (q := 239) (v := (10 : Int32)) hx (dc kX12_next_1 55 rfl) (by decide) rfl ?_
          refine j_aload_n (q := 240) hx (dc kX12_next_1 56 rfl) rfl 0 rfl rfl ?_
          refine w_gI (q := 243) hx (dc kX12_next_1 57 rfl) ff_X12_15 lk_X12_102 rfl (fun v38 => ?_)
          refine j_imul (q := 244) hx (dc kX12_next_1 58 rfl) rfl ?_
          refine j_aload_n (q := 245) hx (dc kX12_next_1 59 rfl) rfl 0 rfl rfl ?_
          refine j_aload_n (q := 246) hx (dc kX12_next_1 60 rfl) rfl 0 rfl rfl ?_
          refine w_gI (q := 249) hx (dc kX12_next_1 61 rfl) ff_X12_12 lk_X12_92 rfl (fun v39 => ?_)
          refine w_cVIR (q := 252) (As := [.int v39]) (st := [.int ((10 : Int32) * v38), vR x.2.2.2 x0]) hx (dc kX12_next_1 62 rfl) cf12 (by decide) rfl (cI _ my_X12_see lm_X12_95 (by decide)) vs_X12_see rfl (fun u hu => sX12_see _ _ _ _ _ _ hu) (fun e => ite_ne (by unfold mX12_see at e; exact e)) (sum_le (sum_I (sum_R sum_nil)) (by decide)) rfl (fun v40 => ?_)
          refine j_iadd (q := 253) hx (dc kX12_next_1 63 rfl) rfl ?_
          refine j_bipush (q := 255) (v := (48 : Int32)) hx (dc kX12_next_2 0 rfl) (by decide) rfl ?_
          refine j_isub (q := 256) hx (dc kX12_next_2 1 rfl) rfl ?_
          refine j_goto (q := 263) hx (dc kX12_next_2 2 rfl) (by decide) ?_
          exact hb263 x0 x0 ((((10 : Int32) * v38) + v40) - (48 : Int32)) h
    exact j_loop (S := Hp) (lvf := fun s => [(0, vR x.2.2.2 x0)]) (hpf := fun s => s) (f := (fun s : Hp => mX12_next_l205f x0 s)) (fun s => hB s) h
  have hb188 : ∀ (t0 : Nat) (t1 : Int32) (h : Hp), J x 188 [] [.int t1, vR x.2.2.2 t0] h (mX12_next_b188 t0 t1 h) (fun r => r = u) := by
    intro t0 t1 h
    unfold mX12_next_b188
    refine w_sI (q := 191) hx (dc kX12_next_1 32 rfl) ff_X12_14 rfl lk_X12_109 (Or.inl rfl) rfl (fun h49 => ?_)
    refine j_goto (q := 370) hx (dc kX12_next_1 33 rfl) (by decide) ?_
    exact r_vW hx hR (dc kX12_next_2 61 rfl)
  have hb90 : ∀ (x0 : Nat) (h : Hp), J x 90 [(0, vR x.2.2.2 x0)] [] h (mX12_next_l90 x0 h) (fun r => r = u) := by
    intro x0 h
    have hB : ∀ (h : Hp), J x 90 [(0, vR x.2.2.2 x0)] [] h (mX12_next_l90f x0 h) (TL (S := Hp) x 90 (fun s => [(0, vR x.2.2.2 x0)]) [] (fun s => s) (fun r => r = u)) := by
      intro  h
      have hb152 : ∀ (x0 : Nat) (t0 : Nat) (t1 : Int64) (h : Hp), J x 152 [(0, vR x.2.2.2 x0)] [.long t1, vR x.2.2.2 t0] h (mX12_next_b152 x0 t0 t1 h) (TL (S := Hp) x 90 (fun s => [(0, vR x.2.2.2 x0)]) [] (fun s => s) (fun r => r = u)) := by
        intro x0 t0 t1 h
        unfold mX12_next_b152
        refine w_sL (q := 155) hx (dc kX12_next_1 13 rfl) ff_X12_21 rfl lk_X12_105 (Or.inl rfl) rfl (fun h53 => ?_)
        refine j_aload_n (q := 156) hx (dc kX12_next_1 14 rfl) rfl 0 rfl rfl ?_
        refine j_dup (q := 157) hx (dc kX12_next_1 15 rfl) (vR_cat _ _) rfl ?_
        refine w_gI (q := 160) hx (dc kX12_next_1 16 rfl) ff_X12_12 lk_X12_92 rfl (fun v54 => ?_)
        refine j_iconst (q := 161) (v := (1 : Int32)) hx (dc kX12_next_1 17 rfl) (by decide) rfl ?_
        refine j_iadd (q := 162) hx (dc kX12_next_1 18 rfl) rfl ?_
        refine w_sI (q := 165) hx (dc kX12_next_1 19 rfl) ff_X12_12 rfl lk_X12_92 (Or.inl rfl) rfl (fun h55 => ?_)
        refine j_goto (q := 90) hx (dc kX12_next_1 20 rfl) (by decide) ?_
        exact j_back [0] h55 rfl rfl
      unfold mX12_next_l90f
      refine j_aload_n (q := 91) hx (dc kX12_next_0 46 rfl) rfl 0 rfl rfl ?_
      refine j_aload_n (q := 92) hx (dc kX12_next_0 47 rfl) rfl 0 rfl rfl ?_
      refine w_gI (q := 95) hx (dc kX12_next_0 48 rfl) ff_X12_12 lk_X12_92 rfl (fun v42 => ?_)
      refine w_cVIR (q := 98) (As := [.int v42]) (st := []) hx (dc kX12_next_0 49 rfl) cf12 (by decide) rfl (cI _ my_X12_see lm_X12_95 (by decide)) vs_X12_see rfl (fun u hu => sX12_see _ _ _ _ _ _ hu) (fun e => ite_ne (by unfold mX12_see at e; exact e)) (Nat.zero_le _) rfl (fun v43 => ?_)
      refine j_bipush (q := 100) (v := (97 : Int32)) hx (dc kX12_next_0 50 rfl) (by decide) rfl ?_
      refine j_bipush (q := 102) (v := (122 : Int32)) hx (dc kX12_next_0 51 rfl) (by decide) rfl ?_
      refine w_cSIR (q := 105) (As := [.int v43, .int (97 : Int32), .int (122 : Int32)]) (st := []) hx (dc kX12_next_0 52 rfl) (cI _ my_X12_in lm_X12_85 (by decide)) st_X12_in rfl (fun u hu => sX12_in _ _ _ _ _ _ _ hu) (Nat.zero_le _) rfl (fun v45 => ?_)
      refine j_if_eq (q := 108) (tgt := 168) hx (dc kX12_next_0 53 rfl) (by decide) Iff.rfl rfl ?_ ?_
      · refine j_exit ?_
        refine j_aload_n (q := 169) hx (dc kX12_next_1 21 rfl) rfl 0 rfl rfl ?_
        refine j_aload_n (q := 170) hx (dc kX12_next_1 22 rfl) rfl 0 rfl rfl ?_
        refine w_gI (q := 173) hx (dc kX12_next_1 23 rfl) ff_X12_12 lk_X12_92 rfl (fun v47 => ?_)
        refine j_aload_n (q := 174) hx (dc kX12_next_1 24 rfl) rfl 0 rfl rfl ?_
        refine w_gI (q := 177) hx (dc kX12_next_1 25 rfl) ff_X12_13 lk_X12_99 rfl (fun v48 => ?_)
        refine j_isub (q := 178) hx (dc kX12_next_1 26 rfl) rfl ?_
        refine j_bipush (q := 180) (v := (6 : Int32)) hx (dc kX12_next_1 27 rfl) (by decide) rfl ?_
        refine j_icmp_leS (q := 183) (tgt := 187) hx (dc kX12_next_1 28 rfl) (by decide) rfl ?_ ?_
        · refine j_iconst (q := 188) (v := (2 : Int32)) hx (dc kX12_next_1 31 rfl) (by decide) rfl ?_
          exact j_sub [] rfl (hb188 x0 (2 : Int32) h)
        · refine j_iconst (q := 184) (v := (1 : Int32)) hx (dc kX12_next_1 29 rfl) (by decide) rfl ?_
          refine j_goto (q := 188) hx (dc kX12_next_1 30 rfl) (by decide) ?_
          exact j_sub [] rfl (hb188 x0 (1 : Int32) h)
      · refine j_aload_n (q := 109) hx (dc kX12_next_0 54 rfl) rfl 0 rfl rfl ?_
        refine j_aload_n (q := 110) hx (dc kX12_next_0 55 rfl) rfl 0 rfl rfl ?_
        refine w_gI (q := 113) hx (dc kX12_next_0 56 rfl) ff_X12_12 lk_X12_92 rfl (fun v50 => ?_)
        refine j_aload_n (q := 114) hx (dc kX12_next_0 57 rfl) rfl 0 rfl rfl ?_
        refine w_gI (q := 117) hx (dc kX12_next_0 58 rfl) ff_X12_13 lk_X12_99 rfl (fun v51 => ?_)
        refine j_isub (q := 118) hx (dc kX12_next_0 59 rfl) rfl ?_
        refine j_bipush (q := 120) (v := (6 : Int32)) hx (dc kX12_next_0 60 rfl) (by decide) rfl ?_
        refine j_icmp_geS (q := 123) (tgt := 148) hx (dc kX12_next_0 61 rfl) (by decide) rfl ?_ ?_
        · refine j_aload_n (q := 149) hx (dc kX12_next_1 11 rfl) rfl 0 rfl rfl ?_
          refine w_gL (q := 152) hx (dc kX12_next_1 12 rfl) ff_X12_21 lk_X12_105 rfl (fun v52 => ?_)
          exact hb152 x0 x0 v52 h
        · refine j_ldc2 (q := 126) hx kl_X12_112 (dc kX12_next_0 62 rfl) rfl ?_
          refine j_aload_n (q := 127) hx (dc kX12_next_0 63 rfl) rfl 0 rfl rfl ?_
          refine w_gL (q := 130) hx (dc kX12_next_1 0 rfl) ff_X12_21 lk_X12_105 rfl (fun v56 => ?_)
          refine j_lmul (q := 131) hx (dc kX12_next_1 1 rfl) rfl ?_
          refine j_aload_n (q := 132) hx (dc kX12_next_1 2 rfl) rfl 0 rfl rfl ?_
          refine j_aload_n (q := 133) hx (dc kX12_next_1 3 rfl) rfl 0 rfl rfl ?_
          refine w_gI (q := 136) hx (dc kX12_next_1 4 rfl) ff_X12_12 lk_X12_92 rfl (fun v57 => ?_)
          refine w_cVIR (q := 139) (As := [.int v57]) (st := [.long ((27 : Int64) * v56), vR x.2.2.2 x0]) hx (dc kX12_next_1 5 rfl) cf12 (by decide) rfl (cI _ my_X12_see lm_X12_95 (by decide)) vs_X12_see rfl (fun u hu => sX12_see _ _ _ _ _ _ hu) (fun e => ite_ne (by unfold mX12_see at e; exact e)) (sum_le (sum_J (sum_R sum_nil)) (by decide)) rfl (fun v58 => ?_)
          refine j_i2l (q := 140) hx (dc kX12_next_1 6 rfl) rfl ?_
          refine j_ladd (q := 141) hx (dc kX12_next_1 7 rfl) rfl ?_
          refine j_ldc2 (q := 144) hx kl_X12_114 (dc kX12_next_1 8 rfl) rfl ?_
          refine j_lsub (q := 145) hx (dc kX12_next_1 9 rfl) rfl ?_
          refine j_goto (q := 152) hx (dc kX12_next_1 10 rfl) (by decide) ?_
          exact hb152 x0 x0 ((((27 : Int64) * v56) + v58.toInt64) - (96 : Int64)) h
    exact j_loop (S := Hp) (lvf := fun s => [(0, vR x.2.2.2 x0)]) (hpf := fun s => s) (f := (fun s : Hp => mX12_next_l90f x0 s)) (fun s => hB s) h
  have hb0 : ∀ (x0 : Nat) (h : Hp), J x 0 [(0, vR x.2.2.2 x0)] [] h (mX12_next_l0 x0 h) (fun r => r = u) := by
    intro x0 h
    have hB : ∀ (h : Hp), J x 0 [(0, vR x.2.2.2 x0)] [] h (mX12_next_l0f x0 h) (TL (S := Hp) x 0 (fun s => [(0, vR x.2.2.2 x0)]) [] (fun s => s) (fun r => r = u)) := by
      intro  h
      have hb26 : ∀ (x0 : Nat) (h : Hp), J x 26 [(0, vR x.2.2.2 x0)] [] h (mX12_next_b26 x0 h) (TL (S := Hp) x 0 (fun s => [(0, vR x.2.2.2 x0)]) [] (fun s => s) (fun r => r = u)) := by
        intro x0 h
        unfold mX12_next_b26
        refine j_aload_n (q := 27) hx (dc kX12_next_0 12 rfl) rfl 0 rfl rfl ?_
        refine j_dup (q := 28) hx (dc kX12_next_0 13 rfl) (vR_cat _ _) rfl ?_
        refine w_gI (q := 31) hx (dc kX12_next_0 14 rfl) ff_X12_12 lk_X12_92 rfl (fun v4 => ?_)
        refine j_iconst (q := 32) (v := (1 : Int32)) hx (dc kX12_next_0 15 rfl) (by decide) rfl ?_
        refine j_iadd (q := 33) hx (dc kX12_next_0 16 rfl) rfl ?_
        refine w_sI (q := 36) hx (dc kX12_next_0 17 rfl) ff_X12_12 rfl lk_X12_92 (Or.inl rfl) rfl (fun h5 => ?_)
        refine j_goto (q := 0) hx (dc kX12_next_0 18 rfl) (by decide) ?_
        exact j_back [0] h5 rfl rfl
      unfold mX12_next_l0f
      refine j_aload_n (q := 1) hx (dc kX12_next_0 0 rfl) rfl 0 rfl rfl ?_
      refine j_aload_n (q := 2) hx (dc kX12_next_0 1 rfl) rfl 0 rfl rfl ?_
      refine w_gI (q := 5) hx (dc kX12_next_0 2 rfl) ff_X12_12 lk_X12_92 rfl (fun v1 => ?_)
      refine w_cVIR (q := 8) (As := [.int v1]) (st := []) hx (dc kX12_next_0 3 rfl) cf12 (by decide) rfl (cI _ my_X12_see lm_X12_95 (by decide)) vs_X12_see rfl (fun u hu => sX12_see _ _ _ _ _ _ hu) (fun e => ite_ne (by unfold mX12_see at e; exact e)) (Nat.zero_le _) rfl (fun v2 => ?_)
      refine j_bipush (q := 10) (v := (32 : Int32)) hx (dc kX12_next_0 4 rfl) (by decide) rfl ?_
      refine j_icmp_eq (q := 13) (tgt := 26) hx (dc kX12_next_0 5 rfl) (by decide) Iff.rfl rfl ?_ ?_
      · exact hb26 x0 h
      · refine j_aload_n (q := 14) hx (dc kX12_next_0 6 rfl) rfl 0 rfl rfl ?_
        refine j_aload_n (q := 15) hx (dc kX12_next_0 7 rfl) rfl 0 rfl rfl ?_
        refine w_gI (q := 18) hx (dc kX12_next_0 8 rfl) ff_X12_12 lk_X12_92 rfl (fun v6 => ?_)
        refine w_cVIR (q := 21) (As := [.int v6]) (st := []) hx (dc kX12_next_0 9 rfl) cf12 (by decide) rfl (cI _ my_X12_see lm_X12_95 (by decide)) vs_X12_see rfl (fun u hu => sX12_see _ _ _ _ _ _ hu) (fun e => ite_ne (by unfold mX12_see at e; exact e)) (Nat.zero_le _) rfl (fun v7 => ?_)
        refine j_bipush (q := 23) (v := (10 : Int32)) hx (dc kX12_next_0 10 rfl) (by decide) rfl ?_
        refine j_icmp_neS (q := 26) (tgt := 39) hx (dc kX12_next_0 11 rfl) (by decide) rfl ?_ ?_
        · refine j_exit ?_
          refine j_aload_n (q := 40) hx (dc kX12_next_0 19 rfl) rfl 0 rfl rfl ?_
          refine j_aload_n (q := 41) hx (dc kX12_next_0 20 rfl) rfl 0 rfl rfl ?_
          refine w_gI (q := 44) hx (dc kX12_next_0 21 rfl) ff_X12_12 lk_X12_92 rfl (fun v9 => ?_)
          refine w_sI (q := 47) hx (dc kX12_next_0 22 rfl) ff_X12_13 rfl lk_X12_99 (Or.inl rfl) rfl (fun h10 => ?_)
          refine j_aload_n (q := 48) hx (dc kX12_next_0 23 rfl) rfl 0 rfl rfl ?_
          refine j_iconst (q := 49) (v := (0 : Int32)) hx (dc kX12_next_0 24 rfl) (by decide) rfl ?_
          refine w_sI (q := 52) hx (dc kX12_next_0 25 rfl) ff_X12_15 rfl lk_X12_102 (Or.inl rfl) rfl (fun h11 => ?_)
          refine j_aload_n (q := 53) hx (dc kX12_next_0 26 rfl) rfl 0 rfl rfl ?_
          refine j_lconst (q := 54) (v := (0 : Int64)) hx (dc kX12_next_0 27 rfl) (by decide) rfl ?_
          refine w_sL (q := 57) hx (dc kX12_next_0 28 rfl) ff_X12_21 rfl lk_X12_105 (Or.inl rfl) rfl (fun h12 => ?_)
          refine j_aload_n (q := 58) hx (dc kX12_next_0 29 rfl) rfl 0 rfl rfl ?_
          refine j_aload_n (q := 59) hx (dc kX12_next_0 30 rfl) rfl 0 rfl rfl ?_
          refine w_gI (q := 62) hx (dc kX12_next_0 31 rfl) ff_X12_12 lk_X12_92 rfl (fun v13 => ?_)
          refine w_cVIR (q := 65) (As := [.int v13]) (st := []) hx (dc kX12_next_0 32 rfl) cf12 (by decide) rfl (cI _ my_X12_see lm_X12_95 (by decide)) vs_X12_see rfl (fun u hu => sX12_see _ _ _ _ _ _ hu) (fun e => ite_ne (by unfold mX12_see at e; exact e)) (Nat.zero_le _) rfl (fun v14 => ?_)
          refine j_istore_n (q := 66) (i := 1) (l2 := [(0, vR x.2.2.2 x0)]) hx (dc kX12_next_0 33 rfl) rfl (hn 1 (by decide)) [0] rfl ⟨⟨show (0 : Nat) ≠ 1 by decide, Or.inr (vR_cat _ _)⟩, trivial⟩ rfl ?_
          refine j_iload_n (q := 67) hx (dc kX12_next_0 34 rfl) rfl 0 rfl rfl ?_
          refine j_iconst (q := 68) (v := (-1 : Int32)) hx (dc kX12_next_0 35 rfl) (by decide) rfl ?_
          refine j_icmp_neS (q := 71) (tgt := 79) hx (dc kX12_next_0 36 rfl) (by decide) rfl ?_ ?_
          · refine j_iload_n (q := 80) hx (dc kX12_next_0 41 rfl) rfl 0 rfl rfl ?_
            refine j_bipush (q := 82) (v := (97 : Int32)) hx (dc kX12_next_0 42 rfl) (by decide) rfl ?_
            refine j_bipush (q := 84) (v := (122 : Int32)) hx (dc kX12_next_0 43 rfl) (by decide) rfl ?_
            refine w_cSIR (q := 87) (As := [.int v14, .int (97 : Int32), .int (122 : Int32)]) (st := []) hx (dc kX12_next_0 44 rfl) (cI _ my_X12_in lm_X12_85 (by decide)) st_X12_in rfl (fun u hu => sX12_in _ _ _ _ _ _ _ hu) (Nat.zero_le _) rfl (fun v16 => ?_)
            refine j_if_eq (q := 90) (tgt := 194) hx (dc kX12_next_0 45 rfl) (by decide) Iff.rfl rfl ?_ ?_
            · refine j_iload_n (q := 195) hx (dc kX12_next_1 34 rfl) rfl 0 rfl rfl ?_
              refine j_bipush (q := 197) (v := (48 : Int32)) hx (dc kX12_next_1 35 rfl) (by decide) rfl ?_
              refine j_bipush (q := 199) (v := (57 : Int32)) hx (dc kX12_next_1 36 rfl) (by decide) rfl ?_
              refine w_cSIR (q := 202) (As := [.int v14, .int (48 : Int32), .int (57 : Int32)]) (st := []) hx (dc kX12_next_1 37 rfl) (cI _ my_X12_in lm_X12_85 (by decide)) st_X12_in rfl (fun u hu => sX12_in _ _ _ _ _ _ _ hu) (Nat.zero_le _) rfl (fun v18 => ?_)
              refine j_if_eq (q := 205) (tgt := 304) hx (dc kX12_next_1 38 rfl) (by decide) Iff.rfl rfl ?_ ?_
              · refine j_aload_n (q := 305) hx (dc kX12_next_2 26 rfl) rfl 1 rfl rfl ?_
                refine j_dup (q := 306) hx (dc kX12_next_2 27 rfl) (vR_cat _ _) rfl ?_
                refine w_gI (q := 309) hx (dc kX12_next_2 28 rfl) ff_X12_12 lk_X12_92 rfl (fun v20 => ?_)
                refine j_iconst (q := 310) (v := (1 : Int32)) hx (dc kX12_next_2 29 rfl) (by decide) rfl ?_
                refine j_iadd (q := 311) hx (dc kX12_next_2 30 rfl) rfl ?_
                refine w_sI (q := 314) hx (dc kX12_next_2 31 rfl) ff_X12_12 rfl lk_X12_92 (Or.inl rfl) rfl (fun h21 => ?_)
                refine j_aload_n (q := 315) hx (dc kX12_next_2 32 rfl) rfl 1 rfl rfl ?_
                refine j_iload_n (q := 316) hx (dc kX12_next_2 33 rfl) rfl 0 rfl rfl ?_
                refine w_sI (q := 319) hx (dc kX12_next_2 34 rfl) ff_X12_15 rfl lk_X12_102 (Or.inl rfl) rfl (fun h22 => ?_)
                refine j_aload_n (q := 320) hx (dc kX12_next_2 35 rfl) rfl 1 rfl rfl ?_
                refine j_iload_n (q := 321) hx (dc kX12_next_2 36 rfl) rfl 0 rfl rfl ?_
                refine j_bipush (q := 323) (v := (33 : Int32)) hx (dc kX12_next_2 37 rfl) (by decide) rfl ?_
                refine j_icmp_eq (q := 326) (tgt := 362) hx (dc kX12_next_2 38 rfl) (by decide) Iff.rfl rfl ?_ ?_
                · exact j_sub [] rfl (hb362 x0 h22)
                · refine j_iload_n (q := 327) hx (dc kX12_next_2 39 rfl) rfl 0 rfl rfl ?_
                  refine j_bipush (q := 329) (v := (38 : Int32)) hx (dc kX12_next_2 40 rfl) (by decide) rfl ?_
                  refine j_icmp_eq (q := 332) (tgt := 362) hx (dc kX12_next_2 41 rfl) (by decide) Iff.rfl rfl ?_ ?_
                  · exact j_sub [] rfl (hb362 x0 h22)
                  · refine j_iload_n (q := 333) hx (dc kX12_next_2 42 rfl) rfl 0 rfl rfl ?_
                    refine j_bipush (q := 335) (v := (124 : Int32)) hx (dc kX12_next_2 43 rfl) (by decide) rfl ?_
                    refine j_icmp_eq (q := 338) (tgt := 362) hx (dc kX12_next_2 44 rfl) (by decide) Iff.rfl rfl ?_ ?_
                    · exact j_sub [] rfl (hb362 x0 h22)
                    · refine j_iload_n (q := 339) hx (dc kX12_next_2 45 rfl) rfl 0 rfl rfl ?_
                      refine j_bipush (q := 341) (v := (40 : Int32)) hx (dc kX12_next_2 46 rfl) (by decide) rfl ?_
                      refine j_icmp_eq (q := 344) (tgt := 362) hx (dc kX12_next_2 47 rfl) (by decide) Iff.rfl rfl ?_ ?_
                      · exact j_sub [] rfl (hb362 x0 h22)
                      · refine j_iload_n (q := 345) hx (dc kX12_next_2 48 rfl) rfl 0 rfl rfl ?_
                        refine j_bipush (q := 347) (v := (41 : Int32)) hx (dc kX12_next_2 49 rfl) (by decide) rfl ?_
                        refine j_icmp_eq (q := 350) (tgt := 362) hx (dc kX12_next_2 50 rfl) (by decide) Iff.rfl rfl ?_ ?_
                        · exact j_sub [] rfl (hb362 x0 h22)
                        · refine j_iload_n (q := 351) hx (dc kX12_next_2 51 rfl) rfl 0 rfl rfl ?_
                          refine j_bipush (q := 353) (v := (44 : Int32)) hx (dc kX12_next_2 52 rfl) (by decide) rfl ?_
                          refine j_icmp_eq (q := 356) (tgt := 362) hx (dc kX12_next_2 53 rfl) (by decide) Iff.rfl rfl ?_ ?_
                          · exact j_sub [] rfl (hb362 x0 h22)
                          · refine j_iload_n (q := 357) hx (dc kX12_next_2 54 rfl) rfl 0 rfl rfl ?_
                            refine j_bipush (q := 359) (v := (59 : Int32)) hx (dc kX12_next_2 55 rfl) (by decide) rfl ?_
                            refine j_icmp_neS (q := 362) (tgt := 366) hx (dc kX12_next_2 56 rfl) (by decide) rfl ?_ ?_
                            · refine j_iconst (q := 367) (v := (1 : Int32)) hx (dc kX12_next_2 59 rfl) (by decide) rfl ?_
                              exact j_sub [] rfl (hb367 x0 (1 : Int32) h22)
                            · exact j_sub [] rfl (hb362 x0 h22)
              · exact j_sub [1] rfl (hb205 x0 h12)
            · exact j_sub [1] rfl (hb90 x0 h12)
          · refine j_aload_n (q := 72) hx (dc kX12_next_0 37 rfl) rfl 1 rfl rfl ?_
            refine j_iconst (q := 73) (v := (0 : Int32)) hx (dc kX12_next_0 38 rfl) (by decide) rfl ?_
            refine w_sI (q := 76) hx (dc kX12_next_0 39 rfl) ff_X12_14 rfl lk_X12_109 (Or.inl rfl) rfl (fun h60 => ?_)
            refine j_goto (q := 370) hx (dc kX12_next_0 40 rfl) (by decide) ?_
            exact r_vW hx hR (dc kX12_next_2 61 rfl)
        · exact hb26 x0 h
    exact j_loop (S := Hp) (lvf := fun s => [(0, vR x.2.2.2 x0)]) (hpf := fun s => s) (f := (fun s : Hp => mX12_next_l0f x0 s)) (fun s => hB s) h
  unfold mX12_next
  refine J.ckd fun hck => ?_
  exact hb0 x0 h

set_option maxHeartbeats 4000000 in
set_option maxRecDepth 100000 in
theorem sX12_spelled (l : Launch) (w : Wd) (x0 : Nat) (h : Hp) (u : Int64) (hK : mX12_spelled x0 = some u) : M1 l w mi_X12_spelled 5 [vR w x0] h h (some (.long u)) := by
  refine M1.of (own := RX12) (T := fun _ r => r = u) hK (by decide +kernel) rfl (by first | (simp only [lg_lenR, lg_lenI, lg_lenL, lg_len0]; decide) | decide) (fun x hx hnl hhf hl hw hret hnm hQ h0e => ⟨?_, rfl⟩)
  subst hw
  subst hl
  have hR : Rt x h h (some (.long u)) ((some .long)) := ⟨h0e, hhf, hret, hQ⟩
  have hn : ∀ i, i < 4 → i < x.2.2.1.1.1 := fun i hi => by rw [hnl]; exact hi
  have e0 : lv_args 0 [vR x.2.2.2 x0] = [(0, vR x.2.2.2 x0)] := by simp only [lv_argsR, lv_argsI, lv_argsL, lv_args0]
  rw [e0]
  have hb4 : ∀ (x0 : Nat) (x1 : Int64) (x3 : Int32), J x 4 [(0, vR x.2.2.2 x0), (1, .long x1), (3, .int x3)] [] h (mX12_spelled_l4 x0 x1 x3) (fun r => r = u) := by
    intro x0 x1 x3
    have hB : ∀ (x1 : Int64) (x3 : Int32), J x 4 [(0, vR x.2.2.2 x0), (1, .long x1), (3, .int x3)] [] h (mX12_spelled_l4f x0 x1 x3) (TL (S := (Int64 × Int32)) x 4 (fun s => [(0, vR x.2.2.2 x0), (1, .long s.1), (3, .int s.2)]) [] (fun s => h) (fun r => r = u)) := by
      intro x1 x3
      unfold mX12_spelled_l4f
      refine j_iload_n (q := 5) hx (dc kX12_spelled_0 4 rfl) rfl 2 rfl rfl ?_
      refine j_aload_n (q := 6) hx (dc kX12_spelled_0 5 rfl) rfl 0 rfl rfl ?_
      refine w_cVSI (q := 9) (As := []) (st := [.int x3]) hx (dc kX12_spelled_0 6 rfl) rfl (cI _ my_J0_length_8abf5 lm_X12_116 (by decide)) vs_J0_length_8abf5 rfl (fun u hu => sJ0_length_8abf5 _ _ _ _ _ hu) (fun e => ite_ne (by unfold mJ0_length_8abf5 at e; exact e)) (sum_le (sum_I sum_nil) (by decide)) rfl (fun v1 => ?_)
      refine j_icmp_geS (q := 12) (tgt := 35) hx (dc kX12_spelled_0 7 rfl) (by decide) rfl ?_ ?_
      · refine j_exit ?_
        refine j_lload_n (q := 36) hx (dc kX12_spelled_0 21 rfl) rfl 1 rfl rfl ?_
        exact r_lR hx hR (dc kX12_spelled_0 22 rfl)
      · refine j_ldc2 (q := 15) hx kl_X12_112 (dc kX12_spelled_0 8 rfl) rfl ?_
        refine j_lload_n (q := 16) hx (dc kX12_spelled_0 9 rfl) rfl 1 rfl rfl ?_
        refine j_lmul (q := 17) hx (dc kX12_spelled_0 10 rfl) rfl ?_
        refine j_aload_n (q := 18) hx (dc kX12_spelled_0 11 rfl) rfl 0 rfl rfl ?_
        refine j_iload_n (q := 19) hx (dc kX12_spelled_0 12 rfl) rfl 2 rfl rfl ?_
        refine w_cVSI (q := 22) (As := [.int x3]) (st := [.long ((27 : Int64) * x1)]) hx (dc kX12_spelled_0 13 rfl) rfl (cI _ my_J0_charAt_5068e lm_X12_122 (by decide)) vs_J0_charAt_5068e rfl (fun u hu => sJ0_charAt_5068e _ _ _ _ _ _ hu) (fun e => ite_ne (by unfold mJ0_charAt_5068e at e; exact e)) (sum_le (sum_J sum_nil) (by decide)) rfl (fun v3 => ?_)
        refine j_i2l (q := 23) hx (dc kX12_spelled_0 14 rfl) rfl ?_
        refine j_ladd (q := 24) hx (dc kX12_spelled_0 15 rfl) rfl ?_
        refine j_ldc2 (q := 27) hx kl_X12_114 (dc kX12_spelled_0 16 rfl) rfl ?_
        refine j_lsub (q := 28) hx (dc kX12_spelled_0 17 rfl) rfl ?_
        refine j_lstore_n (q := 29) (i := 1) (l2 := [(0, vR x.2.2.2 x0), (3, .int x3)]) hx (dc kX12_spelled_0 18 rfl) rfl (hn 2 (by decide)) [0, 2] rfl ⟨⟨show (0 : Nat) ≠ 1 by decide, Or.inr (vR_cat _ _)⟩, ⟨⟨show (3 : Nat) ≠ 1 by decide, Or.inl (show (3 : Nat) + 1 ≠ 1 by decide)⟩, trivial⟩⟩ (by simp) rfl ?_
        refine j_iinc (q := 32) (l2 := [(1, .long ((((27 : Int64) * x1) + v3.toInt64) - (96 : Int64))), (0, vR x.2.2.2 x0)]) hx (dc kX12_spelled_0 19 rfl) 2 rfl (v := (1 : Int32)) (by decide) (hn 3 (by decide)) [0, 1] rfl ⟨⟨show (1 : Nat) ≠ 3 by decide, Or.inl (show (1 : Nat) + 1 ≠ 3 by decide)⟩, ⟨⟨show (0 : Nat) ≠ 3 by decide, Or.inl (show (0 : Nat) + 1 ≠ 3 by decide)⟩, trivial⟩⟩ rfl ?_
        refine j_goto (q := 4) hx (dc kX12_spelled_0 20 rfl) (by decide) ?_
        exact j_back [2, 1, 0] (((((27 : Int64) * x1) + v3.toInt64) - (96 : Int64)), (x3 + (1 : Int32))) rfl rfl
    exact j_loop (S := (Int64 × Int32)) (lvf := fun s => [(0, vR x.2.2.2 x0), (1, .long s.1), (3, .int s.2)]) (hpf := fun s => h) (f := (fun s : (Int64 × Int32) => mX12_spelled_l4f x0 s.1 s.2)) (fun s => hB s.1 s.2) (x1, x3)
  unfold mX12_spelled
  refine j_lconst (q := 1) (v := (0 : Int64)) hx (dc kX12_spelled_0 0 rfl) (by decide) rfl ?_
  refine j_lstore_n (q := 2) (i := 1) (l2 := [(0, vR x.2.2.2 x0)]) hx (dc kX12_spelled_0 1 rfl) rfl (hn 2 (by decide)) [0] rfl ⟨⟨show (0 : Nat) ≠ 1 by decide, Or.inr (vR_cat _ _)⟩, trivial⟩ (by simp) rfl ?_
  refine j_iconst (q := 3) (v := (0 : Int32)) hx (dc kX12_spelled_0 2 rfl) (by decide) rfl ?_
  refine j_istore_n (q := 4) (i := 3) (l2 := [(1, .long (0 : Int64)), (0, vR x.2.2.2 x0)]) hx (dc kX12_spelled_0 3 rfl) rfl (hn 3 (by decide)) [0, 1] rfl ⟨⟨show (1 : Nat) ≠ 3 by decide, Or.inl (show (1 : Nat) + 1 ≠ 3 by decide)⟩, ⟨⟨show (0 : Nat) ≠ 3 by decide, Or.inl (show (0 : Nat) + 1 ≠ 3 by decide)⟩, trivial⟩⟩ rfl ?_
  exact j_sub [2, 1, 0] rfl (hb4 x0 (0 : Int64) (0 : Int32))

set_option maxHeartbeats 4000000 in
set_option maxRecDepth 100000 in
theorem sX12_isWord (l : Launch) (w : Wd) (x0 : Nat) (x1 : Nat) (h : Hp) (u : Int32) (hK : mX12_isWord x0 x1 h = some u) : M1 l w mi_X12_isWord 6 [vR w x0, vR w x1] h h (some (.int u)) := by
  refine M1.of (own := RX12) (T := fun _ r => r = u) hK (by decide +kernel) rfl (by first | (simp only [lg_lenR, lg_lenI, lg_lenL, lg_len0]; decide) | decide) (fun x hx hnl hhf hl hw hret hnm hQ h0e => ⟨?_, rfl⟩)
  subst hw
  subst hl
  have hR : Rt x h h (some (.int u)) ((some .boolean)) := ⟨h0e, hhf, hret, hQ⟩
  have hn : ∀ i, i < 2 → i < x.2.2.1.1.1 := fun i hi => by rw [hnl]; exact hi
  have e0 : lv_args 0 [vR x.2.2.2 x0, vR x.2.2.2 x1] = [(0, vR x.2.2.2 x0), (1, vR x.2.2.2 x1)] := by simp only [lv_argsR, lv_argsI, lv_argsL, lv_args0]
  rw [e0]
  unfold mX12_isWord
  refine J.ckd fun hck => ?_
  refine j_aload_n (q := 1) hx (dc kX12_isWord_0 0 rfl) rfl 0 rfl rfl ?_
  refine w_gI (q := 4) hx (dc kX12_isWord_0 1 rfl) ff_X12_17 lk_X12_126 rfl (fun v1 => ?_)
  refine j_if_neS (q := 7) (tgt := 31) hx (dc kX12_isWord_0 2 rfl) (by decide) rfl ?_ ?_
  · refine j_iconst (q := 32) (v := (0 : Int32)) hx (dc kX12_isWord_0 15 rfl) (by decide) rfl ?_
    exact r_cR hx (Or.inl rfl) hR (dc kX12_isWord_0 16 rfl)
  · refine j_aload_n (q := 8) hx (dc kX12_isWord_0 3 rfl) rfl 0 rfl rfl ?_
    refine w_gI (q := 11) hx (dc kX12_isWord_0 4 rfl) ff_X12_14 lk_X12_109 rfl (fun v2 => ?_)
    refine j_iconst (q := 12) (v := (2 : Int32)) hx (dc kX12_isWord_0 5 rfl) (by decide) rfl ?_
    refine j_icmp_neS (q := 15) (tgt := 31) hx (dc kX12_isWord_0 6 rfl) (by decide) rfl ?_ ?_
    · refine j_iconst (q := 32) (v := (0 : Int32)) hx (dc kX12_isWord_0 15 rfl) (by decide) rfl ?_
      exact r_cR hx (Or.inl rfl) hR (dc kX12_isWord_0 16 rfl)
    · refine j_aload_n (q := 16) hx (dc kX12_isWord_0 7 rfl) rfl 0 rfl rfl ?_
      refine w_gL (q := 19) hx (dc kX12_isWord_0 8 rfl) ff_X12_21 lk_X12_105 rfl (fun v3 => ?_)
      refine j_aload_n (q := 20) hx (dc kX12_isWord_0 9 rfl) rfl 1 rfl rfl ?_
      refine w_cSJR (q := 23) (As := [vR x.2.2.2 x1]) (st := [.long v3]) hx (dc kX12_isWord_0 10 rfl) (cI _ my_X12_spelled lm_X12_129 (by decide)) st_X12_spelled rfl (fun u hu => sX12_spelled _ _ _ _ _ hu) (sum_le (sum_J sum_nil) (by decide)) rfl (fun v4 => ?_)
      refine j_lcmp (q := 24) hx (dc kX12_isWord_0 11 rfl) rfl ?_
      refine j_if_neS (q := 27) (tgt := 31) hx (dc kX12_isWord_0 12 rfl) (by decide) rfl ?_ ?_
      · refine j_iconst (q := 32) (v := (0 : Int32)) hx (dc kX12_isWord_0 15 rfl) (by decide) rfl ?_
        exact r_cR hx (Or.inl rfl) hR (dc kX12_isWord_0 16 rfl)
      · refine j_iconst (q := 28) (v := (1 : Int32)) hx (dc kX12_isWord_0 13 rfl) (by decide) rfl ?_
        refine j_goto (q := 32) hx (dc kX12_isWord_0 14 rfl) (by decide) ?_
        exact r_cR hx (Or.inr rfl) hR (dc kX12_isWord_0 16 rfl)

set_option maxHeartbeats 4000000 in
set_option maxRecDepth 100000 in
theorem sX12_isSign (l : Launch) (w : Wd) (x0 : Nat) (x1 : Int32) (h : Hp) (u : Int32) (hK : mX12_isSign x0 x1 h = some u) : M1 l w mi_X12_isSign 1 [vR w x0, .int x1] h h (some (.int u)) := by
  refine M1.of (own := RX12) (T := fun _ r => r = u) hK (by decide +kernel) rfl (by first | (simp only [lg_lenR, lg_lenI, lg_lenL, lg_len0]; decide) | decide) (fun x hx hnl hhf hl hw hret hnm hQ h0e => ⟨?_, rfl⟩)
  subst hw
  subst hl
  have hR : Rt x h h (some (.int u)) ((some .boolean)) := ⟨h0e, hhf, hret, hQ⟩
  have hn : ∀ i, i < 2 → i < x.2.2.1.1.1 := fun i hi => by rw [hnl]; exact hi
  have e0 : lv_args 0 [vR x.2.2.2 x0, .int x1] = [(0, vR x.2.2.2 x0), (1, .int x1)] := by simp only [lv_argsR, lv_argsI, lv_argsL, lv_args0]
  rw [e0]
  unfold mX12_isSign
  refine J.ckd fun hck => ?_
  refine j_aload_n (q := 1) hx (dc kX12_isSign_0 0 rfl) rfl 0 rfl rfl ?_
  refine w_gI (q := 4) hx (dc kX12_isSign_0 1 rfl) ff_X12_17 lk_X12_126 rfl (fun v1 => ?_)
  refine j_if_neS (q := 7) (tgt := 27) hx (dc kX12_isSign_0 2 rfl) (by decide) rfl ?_ ?_
  · refine j_iconst (q := 28) (v := (0 : Int32)) hx (dc kX12_isSign_0 13 rfl) (by decide) rfl ?_
    exact r_cR hx (Or.inl rfl) hR (dc kX12_isSign_0 14 rfl)
  · refine j_aload_n (q := 8) hx (dc kX12_isSign_0 3 rfl) rfl 0 rfl rfl ?_
    refine w_gI (q := 11) hx (dc kX12_isSign_0 4 rfl) ff_X12_14 lk_X12_109 rfl (fun v2 => ?_)
    refine j_iconst (q := 12) (v := (4 : Int32)) hx (dc kX12_isSign_0 5 rfl) (by decide) rfl ?_
    refine j_icmp_neS (q := 15) (tgt := 27) hx (dc kX12_isSign_0 6 rfl) (by decide) rfl ?_ ?_
    · refine j_iconst (q := 28) (v := (0 : Int32)) hx (dc kX12_isSign_0 13 rfl) (by decide) rfl ?_
      exact r_cR hx (Or.inl rfl) hR (dc kX12_isSign_0 14 rfl)
    · refine j_aload_n (q := 16) hx (dc kX12_isSign_0 7 rfl) rfl 0 rfl rfl ?_
      refine w_gI (q := 19) hx (dc kX12_isSign_0 8 rfl) ff_X12_15 lk_X12_102 rfl (fun v3 => ?_)
      refine j_iload_n (q := 20) hx (dc kX12_isSign_0 9 rfl) rfl 1 rfl rfl ?_
      refine j_icmp_neS (q := 23) (tgt := 27) hx (dc kX12_isSign_0 10 rfl) (by decide) rfl ?_ ?_
      · refine j_iconst (q := 28) (v := (0 : Int32)) hx (dc kX12_isSign_0 13 rfl) (by decide) rfl ?_
        exact r_cR hx (Or.inl rfl) hR (dc kX12_isSign_0 14 rfl)
      · refine j_iconst (q := 24) (v := (1 : Int32)) hx (dc kX12_isSign_0 11 rfl) (by decide) rfl ?_
        refine j_goto (q := 28) hx (dc kX12_isSign_0 12 rfl) (by decide) ?_
        exact r_cR hx (Or.inr rfl) hR (dc kX12_isSign_0 14 rfl)

set_option maxHeartbeats 4000000 in
set_option maxRecDepth 100000 in
theorem sX12_isName (l : Launch) (w : Wd) (x0 : Nat) (h : Hp) (u : Int32) (hK : mX12_isName x0 h = some u) : M1 l w mi_X12_isName 7 [vR w x0] h h (some (.int u)) := by
  refine M1.of (own := RX12) (T := fun _ r => r = u) hK (by decide +kernel) rfl (by first | (simp only [lg_lenR, lg_lenI, lg_lenL, lg_len0]; decide) | decide) (fun x hx hnl hhf hl hw hret hnm hQ h0e => ⟨?_, rfl⟩)
  subst hw
  subst hl
  have hR : Rt x h h (some (.int u)) ((some .boolean)) := ⟨h0e, hhf, hret, hQ⟩
  have hn : ∀ i, i < 1 → i < x.2.2.1.1.1 := fun i hi => by rw [hnl]; exact hi
  have e0 : lv_args 0 [vR x.2.2.2 x0] = [(0, vR x.2.2.2 x0)] := by simp only [lv_argsR, lv_argsI, lv_argsL, lv_args0]
  rw [e0]
  unfold mX12_isName
  refine J.ckd fun hck => ?_
  refine j_aload_n (q := 1) hx (dc kX12_isName_0 0 rfl) rfl 0 rfl rfl ?_
  refine w_gI (q := 4) hx (dc kX12_isName_0 1 rfl) ff_X12_14 lk_X12_109 rfl (fun v1 => ?_)
  refine j_iconst (q := 5) (v := (2 : Int32)) hx (dc kX12_isName_0 2 rfl) (by decide) rfl ?_
  refine j_icmp_neS (q := 8) (tgt := 62) hx (dc kX12_isName_0 3 rfl) (by decide) rfl ?_ ?_
  · refine j_iconst (q := 63) (v := (0 : Int32)) hx (dc kX12_isName_0 28 rfl) (by decide) rfl ?_
    exact r_cR hx (Or.inl rfl) hR (dc kX12_isName_0 29 rfl)
  · refine j_aload_n (q := 9) hx (dc kX12_isName_0 4 rfl) rfl 0 rfl rfl ?_
    refine j_ldcS (a := 2) (q := 11) hx (show (_, _, "fact", _) ∈ strs0 by decide +kernel) (dc kX12_isName_0 5 rfl) rfl ?_
    refine w_cVIR (q := 14) (As := [vR x.2.2.2 12]) (st := []) hx (dc kX12_isName_0 6 rfl) cf12 (by decide) rfl (cI _ my_X12_isWord lm_X12_135 (by decide)) vs_X12_isWord rfl (fun u hu => sX12_isWord _ _ _ _ _ _ hu) (fun e => ite_ne (by unfold mX12_isWord at e; exact e)) (Nat.zero_le _) rfl (fun v2 => ?_)
    refine j_if_neS (q := 17) (tgt := 62) hx (dc kX12_isName_0 7 rfl) (by decide) rfl ?_ ?_
    · refine j_iconst (q := 63) (v := (0 : Int32)) hx (dc kX12_isName_0 28 rfl) (by decide) rfl ?_
      exact r_cR hx (Or.inl rfl) hR (dc kX12_isName_0 29 rfl)
    · refine j_aload_n (q := 18) hx (dc kX12_isName_0 8 rfl) rfl 0 rfl rfl ?_
      refine j_ldcS (a := 3) (q := 20) hx (show (_, _, "never", _) ∈ strs0 by decide +kernel) (dc kX12_isName_0 9 rfl) rfl ?_
      refine w_cVIR (q := 23) (As := [vR x.2.2.2 13]) (st := []) hx (dc kX12_isName_0 10 rfl) cf12 (by decide) rfl (cI _ my_X12_isWord lm_X12_135 (by decide)) vs_X12_isWord rfl (fun u hu => sX12_isWord _ _ _ _ _ _ hu) (fun e => ite_ne (by unfold mX12_isWord at e; exact e)) (Nat.zero_le _) rfl (fun v4 => ?_)
      refine j_if_neS (q := 26) (tgt := 62) hx (dc kX12_isName_0 11 rfl) (by decide) rfl ?_ ?_
      · refine j_iconst (q := 63) (v := (0 : Int32)) hx (dc kX12_isName_0 28 rfl) (by decide) rfl ?_
        exact r_cR hx (Or.inl rfl) hR (dc kX12_isName_0 29 rfl)
      · refine j_aload_n (q := 27) hx (dc kX12_isName_0 12 rfl) rfl 0 rfl rfl ?_
        refine j_ldcS (a := 4) (q := 29) hx (show (_, _, "count", _) ∈ strs0 by decide +kernel) (dc kX12_isName_0 13 rfl) rfl ?_
        refine w_cVIR (q := 32) (As := [vR x.2.2.2 14]) (st := []) hx (dc kX12_isName_0 14 rfl) cf12 (by decide) rfl (cI _ my_X12_isWord lm_X12_135 (by decide)) vs_X12_isWord rfl (fun u hu => sX12_isWord _ _ _ _ _ _ hu) (fun e => ite_ne (by unfold mX12_isWord at e; exact e)) (Nat.zero_le _) rfl (fun v6 => ?_)
        refine j_if_neS (q := 35) (tgt := 62) hx (dc kX12_isName_0 15 rfl) (by decide) rfl ?_ ?_
        · refine j_iconst (q := 63) (v := (0 : Int32)) hx (dc kX12_isName_0 28 rfl) (by decide) rfl ?_
          exact r_cR hx (Or.inl rfl) hR (dc kX12_isName_0 29 rfl)
        · refine j_aload_n (q := 36) hx (dc kX12_isName_0 16 rfl) rfl 0 rfl rfl ?_
          refine j_ldcS (a := 5) (q := 38) hx (show (_, _, "worth", _) ∈ strs0 by decide +kernel) (dc kX12_isName_0 17 rfl) rfl ?_
          refine w_cVIR (q := 41) (As := [vR x.2.2.2 15]) (st := []) hx (dc kX12_isName_0 18 rfl) cf12 (by decide) rfl (cI _ my_X12_isWord lm_X12_135 (by decide)) vs_X12_isWord rfl (fun u hu => sX12_isWord _ _ _ _ _ _ hu) (fun e => ite_ne (by unfold mX12_isWord at e; exact e)) (Nat.zero_le _) rfl (fun v8 => ?_)
          refine j_if_neS (q := 44) (tgt := 62) hx (dc kX12_isName_0 19 rfl) (by decide) rfl ?_ ?_
          · refine j_iconst (q := 63) (v := (0 : Int32)) hx (dc kX12_isName_0 28 rfl) (by decide) rfl ?_
            exact r_cR hx (Or.inl rfl) hR (dc kX12_isName_0 29 rfl)
          · refine j_aload_n (q := 45) hx (dc kX12_isName_0 20 rfl) rfl 0 rfl rfl ?_
            refine j_ldcS (a := 6) (q := 47) hx (show (_, _, "arose", _) ∈ strs0 by decide +kernel) (dc kX12_isName_0 21 rfl) rfl ?_
            refine w_cVIR (q := 50) (As := [vR x.2.2.2 16]) (st := []) hx (dc kX12_isName_0 22 rfl) cf12 (by decide) rfl (cI _ my_X12_isWord lm_X12_135 (by decide)) vs_X12_isWord rfl (fun u hu => sX12_isWord _ _ _ _ _ _ hu) (fun e => ite_ne (by unfold mX12_isWord at e; exact e)) (Nat.zero_le _) rfl (fun v10 => ?_)
            refine j_if_neS (q := 53) (tgt := 62) hx (dc kX12_isName_0 23 rfl) (by decide) rfl ?_ ?_
            · refine j_iconst (q := 63) (v := (0 : Int32)) hx (dc kX12_isName_0 28 rfl) (by decide) rfl ?_
              exact r_cR hx (Or.inl rfl) hR (dc kX12_isName_0 29 rfl)
            · refine j_aload_n (q := 54) hx (dc kX12_isName_0 24 rfl) rfl 0 rfl rfl ?_
              refine j_ldcS (a := 7) (q := 56) hx (show (_, _, "needs", _) ∈ strs0 by decide +kernel) (dc kX12_isName_0 25 rfl) rfl ?_
              refine w_cVIR (q := 59) (As := [vR x.2.2.2 17]) (st := []) hx (dc kX12_isName_0 26 rfl) cf12 (by decide) rfl (cI _ my_X12_isWord lm_X12_135 (by decide)) vs_X12_isWord rfl (fun u hu => sX12_isWord _ _ _ _ _ _ hu) (fun e => ite_ne (by unfold mX12_isWord at e; exact e)) (Nat.zero_le _) rfl (fun v12 => ?_)
              refine j_if_eq (q := 62) (tgt := 64) hx (dc kX12_isName_0 27 rfl) (by decide) Iff.rfl rfl ?_ ?_
              · refine j_aload_n (q := 65) hx (dc kX12_isName_0 30 rfl) rfl 0 rfl rfl ?_
                refine j_ldcS (a := 8) (q := 67) hx (show (_, _, "plea", _) ∈ strs0 by decide +kernel) (dc kX12_isName_0 31 rfl) rfl ?_
                refine w_cVIR (q := 70) (As := [vR x.2.2.2 18]) (st := []) hx (dc kX12_isName_0 32 rfl) cf12 (by decide) rfl (cI _ my_X12_isWord lm_X12_135 (by decide)) vs_X12_isWord rfl (fun u hu => sX12_isWord _ _ _ _ _ _ hu) (fun e => ite_ne (by unfold mX12_isWord at e; exact e)) (Nat.zero_le _) rfl (fun v14 => ?_)
                refine j_if_neS (q := 73) (tgt := 113) hx (dc kX12_isName_0 33 rfl) (by decide) rfl ?_ ?_
                · refine j_iconst (q := 114) (v := (0 : Int32)) hx (dc kX12_isName_0 52 rfl) (by decide) rfl ?_
                  exact r_cR hx (Or.inl rfl) hR (dc kX12_isName_0 53 rfl)
                · refine j_aload_n (q := 74) hx (dc kX12_isName_0 34 rfl) rfl 0 rfl rfl ?_
                  refine j_ldcS (a := 9) (q := 76) hx (show (_, _, "says", _) ∈ strs0 by decide +kernel) (dc kX12_isName_0 35 rfl) rfl ?_
                  refine w_cVIR (q := 79) (As := [vR x.2.2.2 19]) (st := []) hx (dc kX12_isName_0 36 rfl) cf12 (by decide) rfl (cI _ my_X12_isWord lm_X12_135 (by decide)) vs_X12_isWord rfl (fun u hu => sX12_isWord _ _ _ _ _ _ hu) (fun e => ite_ne (by unfold mX12_isWord at e; exact e)) (Nat.zero_le _) rfl (fun v16 => ?_)
                  refine j_if_neS (q := 82) (tgt := 113) hx (dc kX12_isName_0 37 rfl) (by decide) rfl ?_ ?_
                  · refine j_iconst (q := 114) (v := (0 : Int32)) hx (dc kX12_isName_0 52 rfl) (by decide) rfl ?_
                    exact r_cR hx (Or.inl rfl) hR (dc kX12_isName_0 53 rfl)
                  · refine j_aload_n (q := 83) hx (dc kX12_isName_0 38 rfl) rfl 0 rfl rfl ?_
                    refine j_ldcS (a := 10) (q := 85) hx (show (_, _, "same", _) ∈ strs0 by decide +kernel) (dc kX12_isName_0 39 rfl) rfl ?_
                    refine w_cVIR (q := 88) (As := [vR x.2.2.2 20]) (st := []) hx (dc kX12_isName_0 40 rfl) cf12 (by decide) rfl (cI _ my_X12_isWord lm_X12_135 (by decide)) vs_X12_isWord rfl (fun u hu => sX12_isWord _ _ _ _ _ _ hu) (fun e => ite_ne (by unfold mX12_isWord at e; exact e)) (Nat.zero_le _) rfl (fun v18 => ?_)
                    refine j_if_neS (q := 91) (tgt := 113) hx (dc kX12_isName_0 41 rfl) (by decide) rfl ?_ ?_
                    · refine j_iconst (q := 114) (v := (0 : Int32)) hx (dc kX12_isName_0 52 rfl) (by decide) rfl ?_
                      exact r_cR hx (Or.inl rfl) hR (dc kX12_isName_0 53 rfl)
                    · refine j_aload_n (q := 92) hx (dc kX12_isName_0 42 rfl) rfl 0 rfl rfl ?_
                      refine j_ldcS (a := 11) (q := 94) hx (show (_, _, "limit", _) ∈ strs0 by decide +kernel) (dc kX12_isName_0 43 rfl) rfl ?_
                      refine w_cVIR (q := 97) (As := [vR x.2.2.2 21]) (st := []) hx (dc kX12_isName_0 44 rfl) cf12 (by decide) rfl (cI _ my_X12_isWord lm_X12_135 (by decide)) vs_X12_isWord rfl (fun u hu => sX12_isWord _ _ _ _ _ _ hu) (fun e => ite_ne (by unfold mX12_isWord at e; exact e)) (Nat.zero_le _) rfl (fun v20 => ?_)
                      refine j_if_neS (q := 100) (tgt := 113) hx (dc kX12_isName_0 45 rfl) (by decide) rfl ?_ ?_
                      · refine j_iconst (q := 114) (v := (0 : Int32)) hx (dc kX12_isName_0 52 rfl) (by decide) rfl ?_
                        exact r_cR hx (Or.inl rfl) hR (dc kX12_isName_0 53 rfl)
                      · refine j_aload_n (q := 101) hx (dc kX12_isName_0 46 rfl) rfl 0 rfl rfl ?_
                        refine j_ldcS (a := 12) (q := 103) hx (show (_, _, "of", _) ∈ strs0 by decide +kernel) (dc kX12_isName_0 47 rfl) rfl ?_
                        refine w_cVIR (q := 106) (As := [vR x.2.2.2 22]) (st := []) hx (dc kX12_isName_0 48 rfl) cf12 (by decide) rfl (cI _ my_X12_isWord lm_X12_135 (by decide)) vs_X12_isWord rfl (fun u hu => sX12_isWord _ _ _ _ _ _ hu) (fun e => ite_ne (by unfold mX12_isWord at e; exact e)) (Nat.zero_le _) rfl (fun v22 => ?_)
                        refine j_if_neS (q := 109) (tgt := 113) hx (dc kX12_isName_0 49 rfl) (by decide) rfl ?_ ?_
                        · refine j_iconst (q := 114) (v := (0 : Int32)) hx (dc kX12_isName_0 52 rfl) (by decide) rfl ?_
                          exact r_cR hx (Or.inl rfl) hR (dc kX12_isName_0 53 rfl)
                        · refine j_iconst (q := 110) (v := (1 : Int32)) hx (dc kX12_isName_0 50 rfl) (by decide) rfl ?_
                          refine j_goto (q := 114) hx (dc kX12_isName_0 51 rfl) (by decide) ?_
                          exact r_cR hx (Or.inr rfl) hR (dc kX12_isName_0 53 rfl)
              · refine j_iconst (q := 63) (v := (0 : Int32)) hx (dc kX12_isName_0 28 rfl) (by decide) rfl ?_
                exact r_cR hx (Or.inl rfl) hR (dc kX12_isName_0 29 rfl)

set_option maxHeartbeats 4000000 in
set_option maxRecDepth 100000 in
theorem sX12_wrong (l : Launch) (w : Wd) (x0 : Nat) (x1 : Int32) (h : Hp) (u : Hp) (hK : mX12_wrong x0 x1 h = some u) : M1 l w mi_X12_wrong 1 [vR w x0, .int x1] h u (none) := by
  refine M1.of (own := RX12) (T := fun _ r => r = u) hK (by decide +kernel) rfl (by first | (simp only [lg_lenR, lg_lenI, lg_lenL, lg_len0]; decide) | decide) (fun x hx hnl hhf hl hw hret hnm hQ h0e => ⟨?_, rfl⟩)
  subst hw
  subst hl
  have hR : Rt x h u (none) (none) := ⟨h0e, hhf, hret, hQ⟩
  have hn : ∀ i, i < 2 → i < x.2.2.1.1.1 := fun i hi => by rw [hnl]; exact hi
  have e0 : lv_args 0 [vR x.2.2.2 x0, .int x1] = [(0, vR x.2.2.2 x0), (1, .int x1)] := by simp only [lv_argsR, lv_argsI, lv_argsL, lv_args0]
  rw [e0]
  have hb22 : ∀ (x0 : Nat) (t0 : Nat) (t1 : Int32) (h : Hp), J x 22 [(0, vR x.2.2.2 x0)] [.int t1, vR x.2.2.2 t0] h (mX12_wrong_b22 x0 t0 t1 h) (fun r => r = u) := by
    intro x0 t0 t1 h
    unfold mX12_wrong_b22
    refine w_sI (q := 25) hx (dc kX12_wrong_0 12 rfl) ff_X12_17 rfl lk_X12_126 (Or.inl rfl) rfl (fun h3 => ?_)
    refine j_aload_n (q := 26) hx (dc kX12_wrong_0 13 rfl) rfl 0 rfl rfl ?_
    refine j_aload_n (q := 27) hx (dc kX12_wrong_0 14 rfl) rfl 0 rfl rfl ?_
    refine w_gI (q := 30) hx (dc kX12_wrong_0 15 rfl) ff_X12_13 lk_X12_99 rfl (fun v4 => ?_)
    refine w_sI (q := 33) hx (dc kX12_wrong_0 16 rfl) ff_X12_18 rfl lk_X12_159 (Or.inl rfl) rfl (fun h5 => ?_)
    exact r_vW hx hR (dc kX12_wrong_0 17 rfl)
  unfold mX12_wrong
  refine J.ckd fun hck => ?_
  refine j_aload_n (q := 1) hx (dc kX12_wrong_0 0 rfl) rfl 0 rfl rfl ?_
  refine w_gI (q := 4) hx (dc kX12_wrong_0 1 rfl) ff_X12_17 lk_X12_126 rfl (fun v1 => ?_)
  refine j_if_eq (q := 7) (tgt := 8) hx (dc kX12_wrong_0 2 rfl) (by decide) Iff.rfl rfl ?_ ?_
  · refine j_aload_n (q := 9) hx (dc kX12_wrong_0 4 rfl) rfl 0 rfl rfl ?_
    refine j_aload_n (q := 10) hx (dc kX12_wrong_0 5 rfl) rfl 0 rfl rfl ?_
    refine w_gI (q := 13) hx (dc kX12_wrong_0 6 rfl) ff_X12_14 lk_X12_109 rfl (fun v2 => ?_)
    refine j_iconst (q := 14) (v := (1 : Int32)) hx (dc kX12_wrong_0 7 rfl) (by decide) rfl ?_
    refine j_icmp_neS (q := 17) (tgt := 21) hx (dc kX12_wrong_0 8 rfl) (by decide) rfl ?_ ?_
    · refine j_iload_n (q := 22) hx (dc kX12_wrong_0 11 rfl) rfl 1 rfl rfl ?_
      exact j_sub [0] rfl (hb22 x0 x0 x1 h)
    · refine j_iconst (q := 18) (v := (1 : Int32)) hx (dc kX12_wrong_0 9 rfl) (by decide) rfl ?_
      refine j_goto (q := 22) hx (dc kX12_wrong_0 10 rfl) (by decide) ?_
      exact j_sub [0] rfl (hb22 x0 x0 (1 : Int32) h)
  · exact r_vW hx hR (dc kX12_wrong_0 3 rfl)

set_option maxHeartbeats 4000000 in
set_option maxRecDepth 100000 in
theorem sX12_passes (l : Launch) (w : Wd) (x0 : Nat) (h : Hp) (u : Hp) (hK : mX12_passes x0 h = some u) : M1 l w mi_X12_passes 3 [vR w x0] h u (none) := by
  refine M1.of (own := RX12) (T := fun _ r => r = u) hK (by decide +kernel) rfl (by first | (simp only [lg_lenR, lg_lenI, lg_lenL, lg_len0]; decide) | decide) (fun x hx hnl hhf hl hw hret hnm hQ h0e => ⟨?_, rfl⟩)
  subst hw
  subst hl
  have hR : Rt x h u (none) (none) := ⟨h0e, hhf, hret, hQ⟩
  have hn : ∀ i, i < 1 → i < x.2.2.1.1.1 := fun i hi => by rw [hnl]; exact hi
  have e0 : lv_args 0 [vR x.2.2.2 x0] = [(0, vR x.2.2.2 x0)] := by simp only [lv_argsR, lv_argsI, lv_argsL, lv_args0]
  rw [e0]
  unfold mX12_passes
  refine J.ckd fun hck => ?_
  refine j_aload_n (q := 1) hx (dc kX12_passes_0 0 rfl) rfl 0 rfl rfl ?_
  refine w_gI (q := 4) hx (dc kX12_passes_0 1 rfl) ff_X12_17 lk_X12_126 rfl (fun v1 => ?_)
  refine j_if_neS (q := 7) (tgt := 11) hx (dc kX12_passes_0 2 rfl) (by decide) rfl ?_ ?_
  · exact r_vW hx hR (dc kX12_passes_0 5 rfl)
  · refine j_aload_n (q := 8) hx (dc kX12_passes_0 3 rfl) rfl 0 rfl rfl ?_
    refine w_cVVW (q := 11) (As := []) (st := []) hx (dc kX12_passes_0 4 rfl) cf12 (by decide) rfl (cI _ my_X12_next lm_X12_162 (by decide)) vs_X12_next rfl (fun u hu => sX12_next _ _ _ _ _ hu) (fun e => ite_ne (by unfold mX12_next at e; exact e)) (Nat.zero_le _) rfl (fun h3 => ?_)
    exact r_vW hx hR (dc kX12_passes_0 5 rfl)

set_option maxHeartbeats 4000000 in
set_option maxRecDepth 100000 in
theorem sX12_must (l : Launch) (w : Wd) (x0 : Nat) (x1 : Int32) (h : Hp) (u : Hp) (hK : mX12_must x0 x1 h = some u) : M1 l w mi_X12_must 4 [vR w x0, .int x1] h u (none) := by
  refine M1.of (own := RX12) (T := fun _ r => r = u) hK (by decide +kernel) rfl (by first | (simp only [lg_lenR, lg_lenI, lg_lenL, lg_len0]; decide) | decide) (fun x hx hnl hhf hl hw hret hnm hQ h0e => ⟨?_, rfl⟩)
  subst hw
  subst hl
  have hR : Rt x h u (none) (none) := ⟨h0e, hhf, hret, hQ⟩
  have hn : ∀ i, i < 2 → i < x.2.2.1.1.1 := fun i hi => by rw [hnl]; exact hi
  have e0 : lv_args 0 [vR x.2.2.2 x0, .int x1] = [(0, vR x.2.2.2 x0), (1, .int x1)] := by simp only [lv_argsR, lv_argsI, lv_argsL, lv_args0]
  rw [e0]
  have hb9 : ∀ (x0 : Nat) (h : Hp), J x 9 [(0, vR x.2.2.2 x0)] [] h (mX12_must_b9 x0 h) (fun r => r = u) := by
    intro x0 h
    unfold mX12_must_b9
    refine j_aload_n (q := 10) hx (dc kX12_must_0 5 rfl) rfl 0 rfl rfl ?_
    refine w_cVVW (q := 13) (As := []) (st := []) hx (dc kX12_must_0 6 rfl) cf12 (by decide) rfl (cI _ my_X12_passes lm_X12_169 (by decide)) vs_X12_passes rfl (fun u hu => sX12_passes _ _ _ _ _ hu) (fun e => ite_ne (by unfold mX12_passes at e; exact e)) (Nat.zero_le _) rfl (fun h2 => ?_)
    exact r_vW hx hR (dc kX12_must_0 7 rfl)
  unfold mX12_must
  refine J.ckd fun hck => ?_
  refine j_iload_n (q := 1) hx (dc kX12_must_0 0 rfl) rfl 1 rfl rfl ?_
  refine j_if_neS (q := 4) (tgt := 9) hx (dc kX12_must_0 1 rfl) (by decide) rfl ?_ ?_
  · exact j_sub [0] rfl (hb9 x0 h)
  · refine j_aload_n (q := 5) hx (dc kX12_must_0 2 rfl) rfl 0 rfl rfl ?_
    refine j_iconst (q := 6) (v := (1 : Int32)) hx (dc kX12_must_0 3 rfl) (by decide) rfl ?_
    refine w_cVVW (q := 9) (As := [.int (1 : Int32)]) (st := []) hx (dc kX12_must_0 4 rfl) cf12 (by decide) rfl (cI _ my_X12_wrong lm_X12_165 (by decide)) vs_X12_wrong rfl (fun u hu => sX12_wrong _ _ _ _ _ _ hu) (fun e => ite_ne (by unfold mX12_wrong at e; exact e)) (Nat.zero_le _) rfl (fun h4 => ?_)
    exact j_sub [0] rfl (hb9 x0 h4)

set_option maxHeartbeats 4000000 in
set_option maxRecDepth 100000 in
theorem sX12_number (l : Launch) (w : Wd) (x0 : Nat) (x1 : Int32) (x2 : Int32) (h : Hp) (u : (Int32 × Hp)) (hK : mX12_number x0 x1 x2 h = some u) : M1 l w mi_X12_number 4 [vR w x0, .int x1, .int x2] h u.2 (some (.int u.1)) := by
  refine M1.of (own := RX12) (T := fun _ r => r = u) hK (by decide +kernel) rfl (by first | (simp only [lg_lenR, lg_lenI, lg_lenL, lg_len0]; decide) | decide) (fun x hx hnl hhf hl hw hret hnm hQ h0e => ⟨?_, rfl⟩)
  subst hw
  subst hl
  have hR : Rt x h u.2 (some (.int u.1)) ((some .int)) := ⟨h0e, hhf, hret, hQ⟩
  have hn : ∀ i, i < 4 → i < x.2.2.1.1.1 := fun i hi => by rw [hnl]; exact hi
  have e0 : lv_args 0 [vR x.2.2.2 x0, .int x1, .int x2] = [(0, vR x.2.2.2 x0), (1, .int x1), (2, .int x2)] := by simp only [lv_argsR, lv_argsI, lv_argsL, lv_args0]
  rw [e0]
  have hb33 : ∀ (x0 : Nat) (h : Hp), J x 33 [(0, vR x.2.2.2 x0)] [] h (mX12_number_b33 x0 h) (fun r => r = u) := by
    intro x0 h
    unfold mX12_number_b33
    refine j_aload_n (q := 34) hx (dc kX12_number_0 17 rfl) rfl 0 rfl rfl ?_
    refine w_gI (q := 37) hx (dc kX12_number_0 18 rfl) ff_X12_15 lk_X12_102 rfl (fun v5 => ?_)
    refine j_istore_n (q := 38) (i := 3) (l2 := [(0, vR x.2.2.2 x0)]) hx (dc kX12_number_0 19 rfl) rfl (hn 3 (by decide)) [0] rfl ⟨⟨show (0 : Nat) ≠ 3 by decide, Or.inl (show (0 : Nat) + 1 ≠ 3 by decide)⟩, trivial⟩ rfl ?_
    refine j_aload_n (q := 39) hx (dc kX12_number_0 20 rfl) rfl 1 rfl rfl ?_
    refine w_cVVW (q := 42) (As := []) (st := []) hx (dc kX12_number_0 21 rfl) cf12 (by decide) rfl (cI _ my_X12_passes lm_X12_169 (by decide)) vs_X12_passes rfl (fun u hu => sX12_passes _ _ _ _ _ hu) (fun e => ite_ne (by unfold mX12_passes at e; exact e)) (Nat.zero_le _) rfl (fun h7 => ?_)
    refine j_iload_n (q := 43) hx (dc kX12_number_0 22 rfl) rfl 0 rfl rfl ?_
    exact r_iW hx hR (dc kX12_number_0 23 rfl)
  unfold mX12_number
  refine J.ckd fun hck => ?_
  refine j_aload_n (q := 1) hx (dc kX12_number_0 0 rfl) rfl 0 rfl rfl ?_
  refine w_gI (q := 4) hx (dc kX12_number_0 1 rfl) ff_X12_14 lk_X12_109 rfl (fun v1 => ?_)
  refine j_iconst (q := 5) (v := (3 : Int32)) hx (dc kX12_number_0 2 rfl) (by decide) rfl ?_
  refine j_icmp_eq (q := 8) (tgt := 16) hx (dc kX12_number_0 3 rfl) (by decide) Iff.rfl rfl ?_ ?_
  · refine j_aload_n (q := 17) hx (dc kX12_number_0 8 rfl) rfl 0 rfl rfl ?_
    refine w_gI (q := 20) hx (dc kX12_number_0 9 rfl) ff_X12_15 lk_X12_102 rfl (fun v2 => ?_)
    refine j_iload_n (q := 21) hx (dc kX12_number_0 10 rfl) rfl 1 rfl rfl ?_
    refine j_iload_n (q := 22) hx (dc kX12_number_0 11 rfl) rfl 2 rfl rfl ?_
    refine w_cSIR (q := 25) (As := [.int v2, .int x1, .int x2]) (st := []) hx (dc kX12_number_0 12 rfl) (cI _ my_X12_in lm_X12_85 (by decide)) st_X12_in rfl (fun u hu => sX12_in _ _ _ _ _ _ _ hu) (Nat.zero_le _) rfl (fun v3 => ?_)
    refine j_if_neS (q := 28) (tgt := 33) hx (dc kX12_number_0 13 rfl) (by decide) rfl ?_ ?_
    · exact j_sub [0] rfl (hb33 x0 h)
    · refine j_aload_n (q := 29) hx (dc kX12_number_0 14 rfl) rfl 0 rfl rfl ?_
      refine j_iconst (q := 30) (v := (2 : Int32)) hx (dc kX12_number_0 15 rfl) (by decide) rfl ?_
      refine w_cVVW (q := 33) (As := [.int (2 : Int32)]) (st := []) hx (dc kX12_number_0 16 rfl) cf12 (by decide) rfl (cI _ my_X12_wrong lm_X12_165 (by decide)) vs_X12_wrong rfl (fun u hu => sX12_wrong _ _ _ _ _ _ hu) (fun e => ite_ne (by unfold mX12_wrong at e; exact e)) (Nat.zero_le _) rfl (fun h9 => ?_)
      exact j_sub [0] rfl (hb33 x0 h9)
  · refine j_aload_n (q := 9) hx (dc kX12_number_0 4 rfl) rfl 0 rfl rfl ?_
    refine j_iconst (q := 10) (v := (1 : Int32)) hx (dc kX12_number_0 5 rfl) (by decide) rfl ?_
    refine w_cVVW (q := 13) (As := [.int (1 : Int32)]) (st := []) hx (dc kX12_number_0 6 rfl) cf12 (by decide) rfl (cI _ my_X12_wrong lm_X12_165 (by decide)) vs_X12_wrong rfl (fun u hu => sX12_wrong _ _ _ _ _ _ hu) (fun e => ite_ne (by unfold mX12_wrong at e; exact e)) (Nat.zero_le _) rfl (fun h11 => ?_)
    refine j_goto (q := 33) hx (dc kX12_number_0 7 rfl) (by decide) ?_
    exact j_sub [0] rfl (hb33 x0 h11)

set_option maxHeartbeats 4000000 in
set_option maxRecDepth 100000 in
theorem sX12_room (l : Launch) (w : Wd) (x0 : Nat) (x1 : Int32) (x2 : Int32) (h : Hp) (u : Hp) (hK : mX12_room x0 x1 x2 h = some u) : M1 l w mi_X12_room 4 [vR w x0, .int x1, .int x2] h u (none) := by
  refine M1.of (own := RX12) (T := fun _ r => r = u) hK (by decide +kernel) rfl (by first | (simp only [lg_lenR, lg_lenI, lg_lenL, lg_len0]; decide) | decide) (fun x hx hnl hhf hl hw hret hnm hQ h0e => ⟨?_, rfl⟩)
  subst hw
  subst hl
  have hR : Rt x h u (none) (none) := ⟨h0e, hhf, hret, hQ⟩
  have hn : ∀ i, i < 3 → i < x.2.2.1.1.1 := fun i hi => by rw [hnl]; exact hi
  have e0 : lv_args 0 [vR x.2.2.2 x0, .int x1, .int x2] = [(0, vR x.2.2.2 x0), (1, .int x1), (2, .int x2)] := by simp only [lv_argsR, lv_argsI, lv_argsL, lv_args0]
  rw [e0]
  have hb10 : ∀ (x0 : Nat) (h : Hp), J x 10 [(0, vR x.2.2.2 x0)] [] h (mX12_room_b10 x0 h) (fun r => r = u) := by
    intro x0 h
    unfold mX12_room_b10
    refine j_aload_n (q := 11) hx (dc kX12_room_0 6 rfl) rfl 0 rfl rfl ?_
    refine w_cVVW (q := 14) (As := []) (st := []) hx (dc kX12_room_0 7 rfl) cf12 (by decide) rfl (cI _ my_X12_passes lm_X12_169 (by decide)) vs_X12_passes rfl (fun u hu => sX12_passes _ _ _ _ _ hu) (fun e => ite_ne (by unfold mX12_passes at e; exact e)) (Nat.zero_le _) rfl (fun h2 => ?_)
    exact r_vW hx hR (dc kX12_room_0 8 rfl)
  unfold mX12_room
  refine J.ckd fun hck => ?_
  refine j_iload_n (q := 1) hx (dc kX12_room_0 0 rfl) rfl 1 rfl rfl ?_
  refine j_iload_n (q := 2) hx (dc kX12_room_0 1 rfl) rfl 2 rfl rfl ?_
  refine j_icmp_neS (q := 5) (tgt := 10) hx (dc kX12_room_0 2 rfl) (by decide) rfl ?_ ?_
  · exact j_sub [0] rfl (hb10 x0 h)
  · refine j_aload_n (q := 6) hx (dc kX12_room_0 3 rfl) rfl 0 rfl rfl ?_
    refine j_iconst (q := 7) (v := (4 : Int32)) hx (dc kX12_room_0 4 rfl) (by decide) rfl ?_
    refine w_cVVW (q := 10) (As := [.int (4 : Int32)]) (st := []) hx (dc kX12_room_0 5 rfl) cf12 (by decide) rfl (cI _ my_X12_wrong lm_X12_165 (by decide)) vs_X12_wrong rfl (fun u hu => sX12_wrong _ _ _ _ _ _ hu) (fun e => ite_ne (by unfold mX12_wrong at e; exact e)) (Nat.zero_le _) rfl (fun h4 => ?_)
    exact j_sub [0] rfl (hb10 x0 h4)

set_option maxHeartbeats 4000000 in
set_option maxRecDepth 100000 in
theorem sX12_factNamed (l : Launch) (w : Wd) (x0 : Nat) (h : Hp) (u : Int32) (hK : mX12_factNamed x0 h = some u) : M1 l w mi_X12_factNamed 1 [vR w x0] h h (some (.int u)) := by
  refine M1.of (own := RX12) (T := fun _ r => r = u) hK (by decide +kernel) rfl (by first | (simp only [lg_lenR, lg_lenI, lg_lenL, lg_len0]; decide) | decide) (fun x hx hnl hhf hl hw hret hnm hQ h0e => ⟨?_, rfl⟩)
  subst hw
  subst hl
  have hR : Rt x h h (some (.int u)) ((some .int)) := ⟨h0e, hhf, hret, hQ⟩
  have hn : ∀ i, i < 2 → i < x.2.2.1.1.1 := fun i hi => by rw [hnl]; exact hi
  have e0 : lv_args 0 [vR x.2.2.2 x0] = [(0, vR x.2.2.2 x0)] := by simp only [lv_argsR, lv_argsI, lv_argsL, lv_args0]
  rw [e0]
  have hb2 : ∀ (x0 : Nat) (x1 : Int32), J x 2 [(0, vR x.2.2.2 x0), (1, .int x1)] [] h (mX12_factNamed_l2 x0 x1 h) (fun r => r = u) := by
    intro x0 x1
    have hB : ∀ (x1 : Int32), J x 2 [(0, vR x.2.2.2 x0), (1, .int x1)] [] h (mX12_factNamed_l2f x0 h x1) (TL (S := Int32) x 2 (fun s => [(0, vR x.2.2.2 x0), (1, .int s)]) [] (fun s => h) (fun r => r = u)) := by
      intro x1
      unfold mX12_factNamed_l2f
      refine j_iload_n (q := 3) hx (dc kX12_factNamed_0 2 rfl) rfl 1 rfl rfl ?_
      refine j_aload_n (q := 4) hx (dc kX12_factNamed_0 3 rfl) rfl 0 rfl rfl ?_
      refine w_gR (q := 7) hx (dc kX12_factNamed_0 4 rfl) ff_X12_1 lk_X12_13 rfl (fun v1 => ?_)
      refine j_iconst (q := 8) (v := (1 : Int32)) hx (dc kX12_factNamed_0 5 rfl) (by decide) rfl ?_
      refine j_ldI (q := 9) hx (dc kX12_factNamed_0 6 rfl) rfl (fun v2 => ?_)
      refine j_icmp_geS (q := 12) (tgt := 34) hx (dc kX12_factNamed_0 7 rfl) (by decide) rfl ?_ ?_
      · refine j_exit ?_
        refine j_iconst (q := 35) (v := (-1 : Int32)) hx (dc kX12_factNamed_0 20 rfl) (by decide) rfl ?_
        exact r_iR hx hR (dc kX12_factNamed_0 21 rfl)
      · refine j_aload_n (q := 13) hx (dc kX12_factNamed_0 8 rfl) rfl 0 rfl rfl ?_
        refine w_gR (q := 16) hx (dc kX12_factNamed_0 9 rfl) ff_X12_3 lk_X12_20 rfl (fun v3 => ?_)
        refine j_iload_n (q := 17) hx (dc kX12_factNamed_0 10 rfl) rfl 1 rfl rfl ?_
        refine j_ldL (q := 18) hx (dc kX12_factNamed_0 11 rfl) rfl (fun v4 => ?_)
        refine j_aload_n (q := 19) hx (dc kX12_factNamed_0 12 rfl) rfl 0 rfl rfl ?_
        refine w_gL (q := 22) hx (dc kX12_factNamed_0 13 rfl) ff_X12_21 lk_X12_105 rfl (fun v5 => ?_)
        refine j_lcmp (q := 23) hx (dc kX12_factNamed_0 14 rfl) rfl ?_
        refine j_if_neS (q := 26) (tgt := 28) hx (dc kX12_factNamed_0 15 rfl) (by decide) rfl ?_ ?_
        · refine j_iinc (q := 31) (l2 := [(0, vR x.2.2.2 x0)]) hx (dc kX12_factNamed_0 18 rfl) 1 rfl (v := (1 : Int32)) (by decide) (hn 1 (by decide)) [0] rfl ⟨⟨show (0 : Nat) ≠ 1 by decide, Or.inr (vR_cat _ _)⟩, trivial⟩ rfl ?_
          refine j_goto (q := 2) hx (dc kX12_factNamed_0 19 rfl) (by decide) ?_
          exact j_back [1, 0] (x1 + (1 : Int32)) rfl rfl
        · refine j_exit ?_
          refine j_iload_n (q := 27) hx (dc kX12_factNamed_0 16 rfl) rfl 1 rfl rfl ?_
          exact r_iR hx hR (dc kX12_factNamed_0 17 rfl)
    exact j_loop (S := Int32) (lvf := fun s => [(0, vR x.2.2.2 x0), (1, .int s)]) (hpf := fun s => h) (f := (fun s : Int32 => mX12_factNamed_l2f x0 h s)) (fun s => hB s) x1
  unfold mX12_factNamed
  refine J.ckd fun hck => ?_
  refine j_iconst (q := 1) (v := (0 : Int32)) hx (dc kX12_factNamed_0 0 rfl) (by decide) rfl ?_
  refine j_istore_n (q := 2) (i := 1) (l2 := [(0, vR x.2.2.2 x0)]) hx (dc kX12_factNamed_0 1 rfl) rfl (hn 1 (by decide)) [0] rfl ⟨⟨show (0 : Nat) ≠ 1 by decide, Or.inr (vR_cat _ _)⟩, trivial⟩ rfl ?_
  exact j_sub [1, 0] rfl (hb2 x0 (0 : Int32))

set_option maxHeartbeats 4000000 in
set_option maxRecDepth 100000 in
theorem sX12_countNamed (l : Launch) (w : Wd) (x0 : Nat) (h : Hp) (u : Int32) (hK : mX12_countNamed x0 h = some u) : M1 l w mi_X12_countNamed 1 [vR w x0] h h (some (.int u)) := by
  refine M1.of (own := RX12) (T := fun _ r => r = u) hK (by decide +kernel) rfl (by first | (simp only [lg_lenR, lg_lenI, lg_lenL, lg_len0]; decide) | decide) (fun x hx hnl hhf hl hw hret hnm hQ h0e => ⟨?_, rfl⟩)
  subst hw
  subst hl
  have hR : Rt x h h (some (.int u)) ((some .int)) := ⟨h0e, hhf, hret, hQ⟩
  have hn : ∀ i, i < 2 → i < x.2.2.1.1.1 := fun i hi => by rw [hnl]; exact hi
  have e0 : lv_args 0 [vR x.2.2.2 x0] = [(0, vR x.2.2.2 x0)] := by simp only [lv_argsR, lv_argsI, lv_argsL, lv_args0]
  rw [e0]
  have hb2 : ∀ (x0 : Nat) (x1 : Int32), J x 2 [(0, vR x.2.2.2 x0), (1, .int x1)] [] h (mX12_countNamed_l2 x0 x1 h) (fun r => r = u) := by
    intro x0 x1
    have hB : ∀ (x1 : Int32), J x 2 [(0, vR x.2.2.2 x0), (1, .int x1)] [] h (mX12_countNamed_l2f x0 h x1) (TL (S := Int32) x 2 (fun s => [(0, vR x.2.2.2 x0), (1, .int s)]) [] (fun s => h) (fun r => r = u)) := by
      intro x1
      unfold mX12_countNamed_l2f
      refine j_iload_n (q := 3) hx (dc kX12_countNamed_0 2 rfl) rfl 1 rfl rfl ?_
      refine j_aload_n (q := 4) hx (dc kX12_countNamed_0 3 rfl) rfl 0 rfl rfl ?_
      refine w_gR (q := 7) hx (dc kX12_countNamed_0 4 rfl) ff_X12_1 lk_X12_13 rfl (fun v1 => ?_)
      refine j_iconst (q := 8) (v := (2 : Int32)) hx (dc kX12_countNamed_0 5 rfl) (by decide) rfl ?_
      refine j_ldI (q := 9) hx (dc kX12_countNamed_0 6 rfl) rfl (fun v2 => ?_)
      refine j_icmp_geS (q := 12) (tgt := 37) hx (dc kX12_countNamed_0 7 rfl) (by decide) rfl ?_ ?_
      · refine j_exit ?_
        refine j_iconst (q := 38) (v := (-1 : Int32)) hx (dc kX12_countNamed_0 22 rfl) (by decide) rfl ?_
        exact r_iR hx hR (dc kX12_countNamed_0 23 rfl)
      · refine j_aload_n (q := 13) hx (dc kX12_countNamed_0 8 rfl) rfl 0 rfl rfl ?_
        refine w_gR (q := 16) hx (dc kX12_countNamed_0 9 rfl) ff_X12_3 lk_X12_20 rfl (fun v3 => ?_)
        refine j_bipush (q := 18) (v := (8 : Int32)) hx (dc kX12_countNamed_0 10 rfl) (by decide) rfl ?_
        refine j_iload_n (q := 19) hx (dc kX12_countNamed_0 11 rfl) rfl 1 rfl rfl ?_
        refine j_iadd (q := 20) hx (dc kX12_countNamed_0 12 rfl) rfl ?_
        refine j_ldL (q := 21) hx (dc kX12_countNamed_0 13 rfl) rfl (fun v4 => ?_)
        refine j_aload_n (q := 22) hx (dc kX12_countNamed_0 14 rfl) rfl 0 rfl rfl ?_
        refine w_gL (q := 25) hx (dc kX12_countNamed_0 15 rfl) ff_X12_21 lk_X12_105 rfl (fun v5 => ?_)
        refine j_lcmp (q := 26) hx (dc kX12_countNamed_0 16 rfl) rfl ?_
        refine j_if_neS (q := 29) (tgt := 31) hx (dc kX12_countNamed_0 17 rfl) (by decide) rfl ?_ ?_
        · refine j_iinc (q := 34) (l2 := [(0, vR x.2.2.2 x0)]) hx (dc kX12_countNamed_0 20 rfl) 1 rfl (v := (1 : Int32)) (by decide) (hn 1 (by decide)) [0] rfl ⟨⟨show (0 : Nat) ≠ 1 by decide, Or.inr (vR_cat _ _)⟩, trivial⟩ rfl ?_
          refine j_goto (q := 2) hx (dc kX12_countNamed_0 21 rfl) (by decide) ?_
          exact j_back [1, 0] (x1 + (1 : Int32)) rfl rfl
        · refine j_exit ?_
          refine j_iload_n (q := 30) hx (dc kX12_countNamed_0 18 rfl) rfl 1 rfl rfl ?_
          exact r_iR hx hR (dc kX12_countNamed_0 19 rfl)
    exact j_loop (S := Int32) (lvf := fun s => [(0, vR x.2.2.2 x0), (1, .int s)]) (hpf := fun s => h) (f := (fun s : Int32 => mX12_countNamed_l2f x0 h s)) (fun s => hB s) x1
  unfold mX12_countNamed
  refine J.ckd fun hck => ?_
  refine j_iconst (q := 1) (v := (0 : Int32)) hx (dc kX12_countNamed_0 0 rfl) (by decide) rfl ?_
  refine j_istore_n (q := 2) (i := 1) (l2 := [(0, vR x.2.2.2 x0)]) hx (dc kX12_countNamed_0 1 rfl) rfl (hn 1 (by decide)) [0] rfl ⟨⟨show (0 : Nat) ≠ 1 by decide, Or.inr (vR_cat _ _)⟩, trivial⟩ rfl ?_
  exact j_sub [1, 0] rfl (hb2 x0 (0 : Int32))

set_option maxHeartbeats 4000000 in
set_option maxRecDepth 100000 in
theorem sX12_here (l : Launch) (w : Wd) (x0 : Nat) (x1 : Int32) (h : Hp) (u : (Int32 × Hp)) (hK : mX12_here x0 x1 h = some u) : M1 l w mi_X12_here 8 [vR w x0, .int x1] h u.2 (some (.int u.1)) := by
  refine M1.of (own := RX12) (T := fun _ r => r = u) hK (by decide +kernel) rfl (by first | (simp only [lg_lenR, lg_lenI, lg_lenL, lg_len0]; decide) | decide) (fun x hx hnl hhf hl hw hret hnm hQ h0e => ⟨?_, rfl⟩)
  subst hw
  subst hl
  have hR : Rt x h u.2 (some (.int u.1)) ((some .int)) := ⟨h0e, hhf, hret, hQ⟩
  have hn : ∀ i, i < 3 → i < x.2.2.1.1.1 := fun i hi => by rw [hnl]; exact hi
  have e0 : lv_args 0 [vR x.2.2.2 x0, .int x1] = [(0, vR x.2.2.2 x0), (1, .int x1)] := by simp only [lv_argsR, lv_argsI, lv_argsL, lv_args0]
  rw [e0]
  have hb38 : ∀ (x0 : Nat) (x2 : Int32) (h : Hp), J x 38 [(0, vR x.2.2.2 x0), (2, .int x2)] [] h (mX12_here_b38 x0 x2 h) (fun r => r = u) := by
    intro x0 x2 h
    unfold mX12_here_b38
    refine j_aload_n (q := 39) hx (dc kX12_here_0 20 rfl) rfl 0 rfl rfl ?_
    refine w_gI (q := 42) hx (dc kX12_here_0 21 rfl) ff_X12_17 lk_X12_126 rfl (fun v5 => ?_)
    refine j_if_neS (q := 45) (tgt := 49) hx (dc kX12_here_0 22 rfl) (by decide) rfl ?_ ?_
    · refine j_iconst (q := 50) (v := (0 : Int32)) hx (dc kX12_here_0 25 rfl) (by decide) rfl ?_
      exact r_iW hx hR (dc kX12_here_0 26 rfl)
    · refine j_iload_n (q := 46) hx (dc kX12_here_0 23 rfl) rfl 1 rfl rfl ?_
      refine j_goto (q := 50) hx (dc kX12_here_0 24 rfl) (by decide) ?_
      exact r_iW hx hR (dc kX12_here_0 26 rfl)
  have hb27 : ∀ (x0 : Nat) (t0 : Int32) (h : Hp), J x 27 [(0, vR x.2.2.2 x0)] [.int t0] h (mX12_here_b27 x0 t0 h) (fun r => r = u) := by
    intro x0 t0 h
    unfold mX12_here_b27
    refine j_istore_n (q := 28) (i := 2) (l2 := [(0, vR x.2.2.2 x0)]) hx (dc kX12_here_0 13 rfl) rfl (hn 2 (by decide)) [0] rfl ⟨⟨show (0 : Nat) ≠ 2 by decide, Or.inl (show (0 : Nat) + 1 ≠ 2 by decide)⟩, trivial⟩ rfl ?_
    refine j_iload_n (q := 29) hx (dc kX12_here_0 14 rfl) rfl 0 rfl rfl ?_
    refine j_iconst (q := 30) (v := (-1 : Int32)) hx (dc kX12_here_0 15 rfl) (by decide) rfl ?_
    refine j_icmp_neS (q := 33) (tgt := 38) hx (dc kX12_here_0 16 rfl) (by decide) rfl ?_ ?_
    · exact j_sub [1, 0] rfl (hb38 x0 t0 h)
    · refine j_aload_n (q := 34) hx (dc kX12_here_0 17 rfl) rfl 1 rfl rfl ?_
      refine j_iconst (q := 35) (v := (3 : Int32)) hx (dc kX12_here_0 18 rfl) (by decide) rfl ?_
      refine w_cVVW (q := 38) (As := [.int (3 : Int32)]) (st := []) hx (dc kX12_here_0 19 rfl) cf12 (by decide) rfl (cI _ my_X12_wrong lm_X12_165 (by decide)) vs_X12_wrong rfl (fun u hu => sX12_wrong _ _ _ _ _ _ hu) (fun e => ite_ne (by unfold mX12_wrong at e; exact e)) (Nat.zero_le _) rfl (fun h7 => ?_)
      exact j_sub [1, 0] rfl (hb38 x0 t0 h7)
  have hb12 : ∀ (x0 : Nat) (x1 : Int32) (h : Hp), J x 12 [(0, vR x.2.2.2 x0), (1, .int x1)] [] h (mX12_here_b12 x0 x1 h) (fun r => r = u) := by
    intro x0 x1 h
    unfold mX12_here_b12
    refine j_iload_n (q := 13) hx (dc kX12_here_0 6 rfl) rfl 1 rfl rfl ?_
    refine j_if_eq (q := 16) (tgt := 23) hx (dc kX12_here_0 7 rfl) (by decide) Iff.rfl rfl ?_ ?_
    · refine j_aload_n (q := 24) hx (dc kX12_here_0 11 rfl) rfl 0 rfl rfl ?_
      refine w_cVIR (q := 27) (As := []) (st := []) hx (dc kX12_here_0 12 rfl) cf12 (by decide) rfl (cI _ my_X12_countNamed lm_X12_179 (by decide)) vs_X12_countNamed rfl (fun u hu => sX12_countNamed _ _ _ _ _ hu) (fun e => ite_ne (by unfold mX12_countNamed at e; exact e)) (Nat.zero_le _) rfl (fun v3 => ?_)
      exact j_sub [0] rfl (hb27 x0 v3 h)
    · refine j_aload_n (q := 17) hx (dc kX12_here_0 8 rfl) rfl 0 rfl rfl ?_
      refine w_cVIR (q := 20) (As := []) (st := []) hx (dc kX12_here_0 9 rfl) cf12 (by decide) rfl (cI _ my_X12_factNamed lm_X12_176 (by decide)) vs_X12_factNamed rfl (fun u hu => sX12_factNamed _ _ _ _ _ hu) (fun e => ite_ne (by unfold mX12_factNamed at e; exact e)) (Nat.zero_le _) rfl (fun v8 => ?_)
      refine j_goto (q := 27) hx (dc kX12_here_0 10 rfl) (by decide) ?_
      exact j_sub [0] rfl (hb27 x0 v8 h)
  unfold mX12_here
  refine J.ckd fun hck => ?_
  refine j_aload_n (q := 1) hx (dc kX12_here_0 0 rfl) rfl 0 rfl rfl ?_
  refine w_cVIR (q := 4) (As := []) (st := []) hx (dc kX12_here_0 1 rfl) cf12 (by decide) rfl (cI _ my_X12_isName lm_X12_172 (by decide)) vs_X12_isName rfl (fun u hu => sX12_isName _ _ _ _ _ hu) (fun e => ite_ne (by unfold mX12_isName at e; exact e)) (Nat.zero_le _) rfl (fun v1 => ?_)
  refine j_if_neS (q := 7) (tgt := 12) hx (dc kX12_here_0 2 rfl) (by decide) rfl ?_ ?_
  · exact hb12 x0 x1 h
  · refine j_aload_n (q := 8) hx (dc kX12_here_0 3 rfl) rfl 0 rfl rfl ?_
    refine j_iconst (q := 9) (v := (1 : Int32)) hx (dc kX12_here_0 4 rfl) (by decide) rfl ?_
    refine w_cVVW (q := 12) (As := [.int (1 : Int32)]) (st := []) hx (dc kX12_here_0 5 rfl) cf12 (by decide) rfl (cI _ my_X12_wrong lm_X12_165 (by decide)) vs_X12_wrong rfl (fun u hu => sX12_wrong _ _ _ _ _ _ hu) (fun e => ite_ne (by unfold mX12_wrong at e; exact e)) (Nat.zero_le _) rfl (fun h11 => ?_)
    exact hb12 x0 x1 h11

set_option maxHeartbeats 4000000 in
set_option maxRecDepth 100000 in
theorem sX12_known (l : Launch) (w : Wd) (x0 : Nat) (x1 : Int32) (h : Hp) (u : (Int32 × Hp)) (hK : mX12_known x0 x1 h = some u) : M1 l w mi_X12_known 9 [vR w x0, .int x1] h u.2 (some (.int u.1)) := by
  refine M1.of (own := RX12) (T := fun _ r => r = u) hK (by decide +kernel) rfl (by first | (simp only [lg_lenR, lg_lenI, lg_lenL, lg_len0]; decide) | decide) (fun x hx hnl hhf hl hw hret hnm hQ h0e => ⟨?_, rfl⟩)
  subst hw
  subst hl
  have hR : Rt x h u.2 (some (.int u.1)) ((some .int)) := ⟨h0e, hhf, hret, hQ⟩
  have hn : ∀ i, i < 3 → i < x.2.2.1.1.1 := fun i hi => by rw [hnl]; exact hi
  have e0 : lv_args 0 [vR x.2.2.2 x0, .int x1] = [(0, vR x.2.2.2 x0), (1, .int x1)] := by simp only [lv_argsR, lv_argsI, lv_argsL, lv_args0]
  rw [e0]
  unfold mX12_known
  refine J.ckd fun hck => ?_
  refine j_aload_n (q := 1) hx (dc kX12_known_0 0 rfl) rfl 0 rfl rfl ?_
  refine j_iload_n (q := 2) hx (dc kX12_known_0 1 rfl) rfl 1 rfl rfl ?_
  refine w_cVIW (q := 5) (As := [.int x1]) (st := []) hx (dc kX12_known_0 2 rfl) cf12 (by decide) rfl (cI _ my_X12_here lm_X12_182 (by decide)) vs_X12_here rfl (fun u hu => sX12_here _ _ _ _ _ _ hu) (fun e => ite_ne (by unfold mX12_here at e; exact e)) (Nat.zero_le _) rfl (fun v1 h2 => ?_)
  refine j_istore_n (q := 6) (i := 2) (l2 := [(0, vR x.2.2.2 x0)]) hx (dc kX12_known_0 3 rfl) rfl (hn 2 (by decide)) [0] rfl ⟨⟨show (0 : Nat) ≠ 2 by decide, Or.inl (show (0 : Nat) + 1 ≠ 2 by decide)⟩, trivial⟩ rfl ?_
  refine j_aload_n (q := 7) hx (dc kX12_known_0 4 rfl) rfl 1 rfl rfl ?_
  refine w_cVVW (q := 10) (As := []) (st := []) hx (dc kX12_known_0 5 rfl) cf12 (by decide) rfl (cI _ my_X12_passes lm_X12_169 (by decide)) vs_X12_passes rfl (fun u hu => sX12_passes _ _ _ _ _ hu) (fun e => ite_ne (by unfold mX12_passes at e; exact e)) (Nat.zero_le _) rfl (fun h4 => ?_)
  refine j_iload_n (q := 11) hx (dc kX12_known_0 6 rfl) rfl 0 rfl rfl ?_
  exact r_iW hx hR (dc kX12_known_0 7 rfl)

set_option maxHeartbeats 4000000 in
set_option maxRecDepth 100000 in
theorem sX12_newName (l : Launch) (w : Wd) (x0 : Nat) (x1 : Int32) (h : Hp) (u : Hp) (hK : mX12_newName x0 x1 h = some u) : M1 l w mi_X12_newName 8 [vR w x0, .int x1] h u (none) := by
  refine M1.of (own := RX12) (T := fun _ r => r = u) hK (by decide +kernel) rfl (by first | (simp only [lg_lenR, lg_lenI, lg_lenL, lg_len0]; decide) | decide) (fun x hx hnl hhf hl hw hret hnm hQ h0e => ⟨?_, rfl⟩)
  subst hw
  subst hl
  have hR : Rt x h u (none) (none) := ⟨h0e, hhf, hret, hQ⟩
  have hn : ∀ i, i < 2 → i < x.2.2.1.1.1 := fun i hi => by rw [hnl]; exact hi
  have e0 : lv_args 0 [vR x.2.2.2 x0, .int x1] = [(0, vR x.2.2.2 x0), (1, .int x1)] := by simp only [lv_argsR, lv_argsI, lv_argsL, lv_args0]
  rw [e0]
  have hb50 : ∀ (x0 : Nat) (h : Hp), J x 50 [(0, vR x.2.2.2 x0)] [] h (mX12_newName_b50 x0 h) (fun r => r = u) := by
    intro x0 h
    unfold mX12_newName_b50
    refine j_aload_n (q := 51) hx (dc kX12_newName_0 26 rfl) rfl 0 rfl rfl ?_
    refine w_cVVW (q := 54) (As := []) (st := []) hx (dc kX12_newName_0 27 rfl) cf12 (by decide) rfl (cI _ my_X12_passes lm_X12_169 (by decide)) vs_X12_passes rfl (fun u hu => sX12_passes _ _ _ _ _ hu) (fun e => ite_ne (by unfold mX12_passes at e; exact e)) (Nat.zero_le _) rfl (fun h9 => ?_)
    exact r_vW hx hR (dc kX12_newName_0 28 rfl)
  have hb33 : ∀ (x0 : Nat) (x1 : Int32) (h : Hp), J x 33 [(0, vR x.2.2.2 x0), (1, .int x1)] [] h (mX12_newName_b33 x0 x1 h) (fun r => r = u) := by
    intro x0 x1 h
    unfold mX12_newName_b33
    refine j_aload_n (q := 34) hx (dc kX12_newName_0 17 rfl) rfl 0 rfl rfl ?_
    refine w_gI (q := 37) hx (dc kX12_newName_0 18 rfl) ff_X12_17 lk_X12_126 rfl (fun v7 => ?_)
    refine j_if_neS (q := 40) (tgt := 50) hx (dc kX12_newName_0 19 rfl) (by decide) rfl ?_ ?_
    · exact j_sub [0] rfl (hb50 x0 h)
    · refine j_aload_n (q := 41) hx (dc kX12_newName_0 20 rfl) rfl 0 rfl rfl ?_
      refine w_gR (q := 44) hx (dc kX12_newName_0 21 rfl) ff_X12_3 lk_X12_20 rfl (fun v10 => ?_)
      refine j_iload_n (q := 45) hx (dc kX12_newName_0 22 rfl) rfl 1 rfl rfl ?_
      refine j_aload_n (q := 46) hx (dc kX12_newName_0 23 rfl) rfl 0 rfl rfl ?_
      refine w_gL (q := 49) hx (dc kX12_newName_0 24 rfl) ff_X12_21 lk_X12_105 rfl (fun v11 => ?_)
      refine w_stL (q := 50) hx (dc kX12_newName_0 25 rfl) rfl (fun h12 => ?_)
      exact j_sub [0] rfl (hb50 x0 h12)
  have hb28 : ∀ (x0 : Nat) (x1 : Int32) (h : Hp), J x 28 [(0, vR x.2.2.2 x0), (1, .int x1)] [] h (mX12_newName_b28 x0 x1 h) (fun r => r = u) := by
    intro x0 x1 h
    unfold mX12_newName_b28
    refine j_aload_n (q := 29) hx (dc kX12_newName_0 14 rfl) rfl 0 rfl rfl ?_
    refine j_iconst (q := 30) (v := (3 : Int32)) hx (dc kX12_newName_0 15 rfl) (by decide) rfl ?_
    refine w_cVVW (q := 33) (As := [.int (3 : Int32)]) (st := []) hx (dc kX12_newName_0 16 rfl) cf12 (by decide) rfl (cI _ my_X12_wrong lm_X12_165 (by decide)) vs_X12_wrong rfl (fun u hu => sX12_wrong _ _ _ _ _ _ hu) (fun e => ite_ne (by unfold mX12_wrong at e; exact e)) (Nat.zero_le _) rfl (fun h6 => ?_)
    exact hb33 x0 x1 h6
  have hb12 : ∀ (x0 : Nat) (x1 : Int32) (h : Hp), J x 12 [(0, vR x.2.2.2 x0), (1, .int x1)] [] h (mX12_newName_b12 x0 x1 h) (fun r => r = u) := by
    intro x0 x1 h
    unfold mX12_newName_b12
    refine j_aload_n (q := 13) hx (dc kX12_newName_0 6 rfl) rfl 0 rfl rfl ?_
    refine w_cVIR (q := 16) (As := []) (st := []) hx (dc kX12_newName_0 7 rfl) cf12 (by decide) rfl (cI _ my_X12_factNamed lm_X12_176 (by decide)) vs_X12_factNamed rfl (fun u hu => sX12_factNamed _ _ _ _ _ hu) (fun e => ite_ne (by unfold mX12_factNamed at e; exact e)) (Nat.zero_le _) rfl (fun v3 => ?_)
    refine j_iconst (q := 17) (v := (-1 : Int32)) hx (dc kX12_newName_0 8 rfl) (by decide) rfl ?_
    refine j_icmp_neS (q := 20) (tgt := 28) hx (dc kX12_newName_0 9 rfl) (by decide) rfl ?_ ?_
    · exact hb28 x0 x1 h
    · refine j_aload_n (q := 21) hx (dc kX12_newName_0 10 rfl) rfl 0 rfl rfl ?_
      refine w_cVIR (q := 24) (As := []) (st := []) hx (dc kX12_newName_0 11 rfl) cf12 (by decide) rfl (cI _ my_X12_countNamed lm_X12_179 (by decide)) vs_X12_countNamed rfl (fun u hu => sX12_countNamed _ _ _ _ _ hu) (fun e => ite_ne (by unfold mX12_countNamed at e; exact e)) (Nat.zero_le _) rfl (fun v13 => ?_)
      refine j_iconst (q := 25) (v := (-1 : Int32)) hx (dc kX12_newName_0 12 rfl) (by decide) rfl ?_
      refine j_icmp_eq (q := 28) (tgt := 33) hx (dc kX12_newName_0 13 rfl) (by decide) Iff.rfl rfl ?_ ?_
      · exact hb33 x0 x1 h
      · exact hb28 x0 x1 h
  unfold mX12_newName
  refine J.ckd fun hck => ?_
  refine j_aload_n (q := 1) hx (dc kX12_newName_0 0 rfl) rfl 0 rfl rfl ?_
  refine w_cVIR (q := 4) (As := []) (st := []) hx (dc kX12_newName_0 1 rfl) cf12 (by decide) rfl (cI _ my_X12_isName lm_X12_172 (by decide)) vs_X12_isName rfl (fun u hu => sX12_isName _ _ _ _ _ hu) (fun e => ite_ne (by unfold mX12_isName at e; exact e)) (Nat.zero_le _) rfl (fun v1 => ?_)
  refine j_if_neS (q := 7) (tgt := 12) hx (dc kX12_newName_0 2 rfl) (by decide) rfl ?_ ?_
  · exact hb12 x0 x1 h
  · refine j_aload_n (q := 8) hx (dc kX12_newName_0 3 rfl) rfl 0 rfl rfl ?_
    refine j_iconst (q := 9) (v := (1 : Int32)) hx (dc kX12_newName_0 4 rfl) (by decide) rfl ?_
    refine w_cVVW (q := 12) (As := [.int (1 : Int32)]) (st := []) hx (dc kX12_newName_0 5 rfl) cf12 (by decide) rfl (cI _ my_X12_wrong lm_X12_165 (by decide)) vs_X12_wrong rfl (fun u hu => sX12_wrong _ _ _ _ _ _ hu) (fun e => ite_ne (by unfold mX12_wrong at e; exact e)) (Nat.zero_le _) rfl (fun h16 => ?_)
    exact hb12 x0 x1 h16

set_option maxHeartbeats 4000000 in
set_option maxRecDepth 100000 in
theorem sX12_step (l : Launch) (w : Wd) (x0 : Nat) (x1 : Int32) (x2 : Int32) (h : Hp) (u : Hp) (hK : mX12_step x0 x1 x2 h = some u) : M1 l w mi_X12_step 1 [vR w x0, .int x1, .int x2] h u (none) := by
  refine M1.of (own := RX12) (T := fun _ r => r = u) hK (by decide +kernel) rfl (by first | (simp only [lg_lenR, lg_lenI, lg_lenL, lg_len0]; decide) | decide) (fun x hx hnl hhf hl hw hret hnm hQ h0e => ⟨?_, rfl⟩)
  subst hw
  subst hl
  have hR : Rt x h u (none) (none) := ⟨h0e, hhf, hret, hQ⟩
  have hn : ∀ i, i < 3 → i < x.2.2.1.1.1 := fun i hi => by rw [hnl]; exact hi
  have e0 : lv_args 0 [vR x.2.2.2 x0, .int x1, .int x2] = [(0, vR x.2.2.2 x0), (1, .int x1), (2, .int x2)] := by simp only [lv_argsR, lv_argsI, lv_argsL, lv_args0]
  rw [e0]
  unfold mX12_step
  refine J.ckd fun hck => ?_
  refine j_aload_n (q := 1) hx (dc kX12_step_0 0 rfl) rfl 0 rfl rfl ?_
  refine w_gI (q := 4) hx (dc kX12_step_0 1 rfl) ff_X12_17 lk_X12_126 rfl (fun v1 => ?_)
  refine j_if_eq (q := 7) (tgt := 8) hx (dc kX12_step_0 2 rfl) (by decide) Iff.rfl rfl ?_ ?_
  · refine j_aload_n (q := 9) hx (dc kX12_step_0 4 rfl) rfl 0 rfl rfl ?_
    refine w_gR (q := 12) hx (dc kX12_step_0 5 rfl) ff_X12_1 lk_X12_13 rfl (fun v2 => ?_)
    refine j_sipush (q := 15) (v := (150 : Int32)) hx (dc kX12_step_0 6 rfl) (by decide) rfl ?_
    refine j_aload_n (q := 16) hx (dc kX12_step_0 7 rfl) rfl 0 rfl rfl ?_
    refine w_gR (q := 19) hx (dc kX12_step_0 8 rfl) ff_X12_1 lk_X12_13 rfl (fun v3 => ?_)
    refine j_bipush (q := 21) (v := (7 : Int32)) hx (dc kX12_step_0 9 rfl) (by decide) rfl ?_
    refine j_ldI (q := 22) hx (dc kX12_step_0 10 rfl) rfl (fun v4 => ?_)
    refine j_iadd (q := 23) hx (dc kX12_step_0 11 rfl) rfl ?_
    refine j_bipush (q := 25) (v := (100 : Int32)) hx (dc kX12_step_0 12 rfl) (by decide) rfl ?_
    refine j_iload_n (q := 26) hx (dc kX12_step_0 13 rfl) rfl 1 rfl rfl ?_
    refine j_imul (q := 27) hx (dc kX12_step_0 14 rfl) rfl ?_
    refine j_iload_n (q := 28) hx (dc kX12_step_0 15 rfl) rfl 2 rfl rfl ?_
    refine j_iadd (q := 29) hx (dc kX12_step_0 16 rfl) rfl ?_
    refine w_stI (q := 30) hx (dc kX12_step_0 17 rfl) rfl (fun h5 => ?_)
    refine j_aload_n (q := 31) hx (dc kX12_step_0 18 rfl) rfl 0 rfl rfl ?_
    refine w_gR (q := 34) hx (dc kX12_step_0 19 rfl) ff_X12_1 lk_X12_13 rfl (fun v6 => ?_)
    refine j_bipush (q := 36) (v := (7 : Int32)) hx (dc kX12_step_0 20 rfl) (by decide) rfl ?_
    refine j_dup2_11 (q := 37) hx (dc kX12_step_0 21 rfl) rfl (vR_cat _ _) rfl ?_
    refine j_ldI (q := 38) hx (dc kX12_step_0 22 rfl) rfl (fun v7 => ?_)
    refine j_iconst (q := 39) (v := (1 : Int32)) hx (dc kX12_step_0 23 rfl) (by decide) rfl ?_
    refine j_iadd (q := 40) hx (dc kX12_step_0 24 rfl) rfl ?_
    refine w_stI (q := 41) hx (dc kX12_step_0 25 rfl) rfl (fun h8 => ?_)
    exact r_vW hx hR (dc kX12_step_0 26 rfl)
  · exact r_vW hx hR (dc kX12_step_0 3 rfl)

set_option maxHeartbeats 4000000 in
set_option maxRecDepth 100000 in
theorem sX12_opens (l : Launch) (w : Wd) (x0 : Nat) (h : Hp) (u : Hp) (hK : mX12_opens x0 h = some u) : M1 l w mi_X12_opens 4 [vR w x0] h u (none) := by
  refine M1.of (own := RX12) (T := fun _ r => r = u) hK (by decide +kernel) rfl (by first | (simp only [lg_lenR, lg_lenI, lg_lenL, lg_len0]; decide) | decide) (fun x hx hnl hhf hl hw hret hnm hQ h0e => ⟨?_, rfl⟩)
  subst hw
  subst hl
  have hR : Rt x h u (none) (none) := ⟨h0e, hhf, hret, hQ⟩
  have hn : ∀ i, i < 1 → i < x.2.2.1.1.1 := fun i hi => by rw [hnl]; exact hi
  have e0 : lv_args 0 [vR x.2.2.2 x0] = [(0, vR x.2.2.2 x0)] := by simp only [lv_argsR, lv_argsI, lv_argsL, lv_args0]
  rw [e0]
  have hb13 : ∀ (x0 : Nat) (h : Hp), J x 13 [(0, vR x.2.2.2 x0)] [] h (mX12_opens_b13 x0 h) (fun r => r = u) := by
    intro x0 h
    unfold mX12_opens_b13
    refine j_aload_n (q := 14) hx (dc kX12_opens_0 7 rfl) rfl 0 rfl rfl ?_
    refine j_dup (q := 15) hx (dc kX12_opens_0 8 rfl) (vR_cat _ _) rfl ?_
    refine w_gI (q := 18) hx (dc kX12_opens_0 9 rfl) ff_X12_16 lk_X12_186 rfl (fun v2 => ?_)
    refine j_iconst (q := 19) (v := (1 : Int32)) hx (dc kX12_opens_0 10 rfl) (by decide) rfl ?_
    refine j_iadd (q := 20) hx (dc kX12_opens_0 11 rfl) rfl ?_
    refine w_sI (q := 23) hx (dc kX12_opens_0 12 rfl) ff_X12_16 rfl lk_X12_186 (Or.inl rfl) rfl (fun h3 => ?_)
    refine j_aload_n (q := 24) hx (dc kX12_opens_0 13 rfl) rfl 0 rfl rfl ?_
    refine w_cVVW (q := 27) (As := []) (st := []) hx (dc kX12_opens_0 14 rfl) cf12 (by decide) rfl (cI _ my_X12_passes lm_X12_169 (by decide)) vs_X12_passes rfl (fun u hu => sX12_passes _ _ _ _ _ hu) (fun e => ite_ne (by unfold mX12_passes at e; exact e)) (Nat.zero_le _) rfl (fun h5 => ?_)
    exact r_vW hx hR (dc kX12_opens_0 15 rfl)
  unfold mX12_opens
  refine J.ckd fun hck => ?_
  refine j_aload_n (q := 1) hx (dc kX12_opens_0 0 rfl) rfl 0 rfl rfl ?_
  refine w_gI (q := 4) hx (dc kX12_opens_0 1 rfl) ff_X12_16 lk_X12_186 rfl (fun v1 => ?_)
  refine j_iconst (q := 5) (v := (5 : Int32)) hx (dc kX12_opens_0 2 rfl) (by decide) rfl ?_
  refine j_icmp_neS (q := 8) (tgt := 13) hx (dc kX12_opens_0 3 rfl) (by decide) rfl ?_ ?_
  · exact hb13 x0 h
  · refine j_aload_n (q := 9) hx (dc kX12_opens_0 4 rfl) rfl 0 rfl rfl ?_
    refine j_iconst (q := 10) (v := (4 : Int32)) hx (dc kX12_opens_0 5 rfl) (by decide) rfl ?_
    refine w_cVVW (q := 13) (As := [.int (4 : Int32)]) (st := []) hx (dc kX12_opens_0 6 rfl) cf12 (by decide) rfl (cI _ my_X12_wrong lm_X12_165 (by decide)) vs_X12_wrong rfl (fun u hu => sX12_wrong _ _ _ _ _ _ hu) (fun e => ite_ne (by unfold mX12_wrong at e; exact e)) (Nat.zero_le _) rfl (fun h7 => ?_)
    exact hb13 x0 h7

set_option maxHeartbeats 4000000 in
set_option maxRecDepth 100000 in
theorem sX12_oneTooMany (l : Launch) (w : Wd) (x0 : Nat) (h : Hp) (u : Hp) (hK : mX12_oneTooMany x0 h = some u) : M1 l w mi_X12_oneTooMany 9 [vR w x0] h u (none) := by
  refine M1.of (own := RX12) (T := fun _ r => r = u) hK (by decide +kernel) rfl (by first | (simp only [lg_lenR, lg_lenI, lg_lenL, lg_len0]; decide) | decide) (fun x hx hnl hhf hl hw hret hnm hQ h0e => ⟨?_, rfl⟩)
  subst hw
  subst hl
  have hR : Rt x h u (none) (none) := ⟨h0e, hhf, hret, hQ⟩
  have hn : ∀ i, i < 1 → i < x.2.2.1.1.1 := fun i hi => by rw [hnl]; exact hi
  have e0 : lv_args 0 [vR x.2.2.2 x0] = [(0, vR x.2.2.2 x0)] := by simp only [lv_argsR, lv_argsI, lv_argsL, lv_args0]
  rw [e0]
  have hb57 : ∀ (x0 : Nat) (h : Hp), J x 57 [(0, vR x.2.2.2 x0)] [] h (mX12_oneTooMany_b57 x0 h) (fun r => r = u) := by
    intro x0 h
    unfold mX12_oneTooMany_b57
    refine j_aload_n (q := 58) hx (dc kX12_oneTooMany_0 28 rfl) rfl 0 rfl rfl ?_
    refine j_iconst (q := 59) (v := (4 : Int32)) hx (dc kX12_oneTooMany_0 29 rfl) (by decide) rfl ?_
    refine w_cVVW (q := 62) (As := [.int (4 : Int32)]) (st := []) hx (dc kX12_oneTooMany_0 30 rfl) cf12 (by decide) rfl (cI _ my_X12_wrong lm_X12_165 (by decide)) vs_X12_wrong rfl (fun u hu => sX12_wrong _ _ _ _ _ _ hu) (fun e => ite_ne (by unfold mX12_wrong at e; exact e)) (Nat.zero_le _) rfl (fun h5 => ?_)
    exact r_vW hx hR (dc kX12_oneTooMany_0 31 rfl)
  have hb27 : ∀ (x0 : Nat) (t0 : Nat) (t1 : Int32) (h : Hp), J x 27 [(0, vR x.2.2.2 x0)] [.int t1, vR x.2.2.2 t0] h (mX12_oneTooMany_b27 x0 t0 t1 h) (fun r => r = u) := by
    intro x0 t0 t1 h
    unfold mX12_oneTooMany_b27
    refine w_cVVW (q := 30) (As := [.int t1]) (st := []) hx (dc kX12_oneTooMany_0 14 rfl) cf12 (by decide) rfl (cI _ my_X12_wrong lm_X12_165 (by decide)) vs_X12_wrong rfl (fun u hu => sX12_wrong _ _ _ _ _ _ hu) (fun e => ite_ne (by unfold mX12_wrong at e; exact e)) (Nat.zero_le _) rfl (fun h14 => ?_)
    refine j_goto (q := 57) hx (dc kX12_oneTooMany_0 15 rfl) (by decide) ?_
    exact hb57 x0 h14
  unfold mX12_oneTooMany
  refine J.ckd fun hck => ?_
  refine j_aload_n (q := 1) hx (dc kX12_oneTooMany_0 0 rfl) rfl 0 rfl rfl ?_
  refine w_gI (q := 4) hx (dc kX12_oneTooMany_0 1 rfl) ff_X12_14 lk_X12_109 rfl (fun v1 => ?_)
  refine j_iconst (q := 5) (v := (3 : Int32)) hx (dc kX12_oneTooMany_0 2 rfl) (by decide) rfl ?_
  refine j_icmp_neS (q := 8) (tgt := 33) hx (dc kX12_oneTooMany_0 3 rfl) (by decide) rfl ?_ ?_
  · refine j_aload_n (q := 34) hx (dc kX12_oneTooMany_0 16 rfl) rfl 0 rfl rfl ?_
    refine j_bipush (q := 36) (v := (33 : Int32)) hx (dc kX12_oneTooMany_0 17 rfl) (by decide) rfl ?_
    refine w_cVIR (q := 39) (As := [.int (33 : Int32)]) (st := []) hx (dc kX12_oneTooMany_0 18 rfl) cf12 (by decide) rfl (cI _ my_X12_isSign lm_X12_195 (by decide)) vs_X12_isSign rfl (fun u hu => sX12_isSign _ _ _ _ _ _ hu) (fun e => ite_ne (by unfold mX12_isSign at e; exact e)) (Nat.zero_le _) rfl (fun v2 => ?_)
    refine j_if_neS (q := 42) (tgt := 57) hx (dc kX12_oneTooMany_0 19 rfl) (by decide) rfl ?_ ?_
    · exact hb57 x0 h
    · refine j_aload_n (q := 43) hx (dc kX12_oneTooMany_0 20 rfl) rfl 0 rfl rfl ?_
      refine j_bipush (q := 45) (v := (40 : Int32)) hx (dc kX12_oneTooMany_0 21 rfl) (by decide) rfl ?_
      refine w_cVIR (q := 48) (As := [.int (40 : Int32)]) (st := []) hx (dc kX12_oneTooMany_0 22 rfl) cf12 (by decide) rfl (cI _ my_X12_isSign lm_X12_195 (by decide)) vs_X12_isSign rfl (fun u hu => sX12_isSign _ _ _ _ _ _ hu) (fun e => ite_ne (by unfold mX12_isSign at e; exact e)) (Nat.zero_le _) rfl (fun v6 => ?_)
      refine j_if_neS (q := 51) (tgt := 57) hx (dc kX12_oneTooMany_0 23 rfl) (by decide) rfl ?_ ?_
      · exact hb57 x0 h
      · refine j_aload_n (q := 52) hx (dc kX12_oneTooMany_0 24 rfl) rfl 0 rfl rfl ?_
        refine j_iconst (q := 53) (v := (1 : Int32)) hx (dc kX12_oneTooMany_0 25 rfl) (by decide) rfl ?_
        refine w_cVIW (q := 56) (As := [.int (1 : Int32)]) (st := []) hx (dc kX12_oneTooMany_0 26 rfl) cf12 (by decide) rfl (cI _ my_X12_here lm_X12_182 (by decide)) vs_X12_here rfl (fun u hu => sX12_here _ _ _ _ _ _ hu) (fun e => ite_ne (by unfold mX12_here at e; exact e)) (Nat.zero_le _) rfl (fun v8 h9 => ?_)
        refine j_pop (q := 57) hx (dc kX12_oneTooMany_0 27 rfl) rfl rfl ?_
        exact hb57 x0 h9
  · refine j_aload_n (q := 9) hx (dc kX12_oneTooMany_0 4 rfl) rfl 0 rfl rfl ?_
    refine j_aload_n (q := 10) hx (dc kX12_oneTooMany_0 5 rfl) rfl 0 rfl rfl ?_
    refine w_gI (q := 13) hx (dc kX12_oneTooMany_0 6 rfl) ff_X12_15 lk_X12_102 rfl (fun v10 => ?_)
    refine j_iconst (q := 14) (v := (0 : Int32)) hx (dc kX12_oneTooMany_0 7 rfl) (by decide) rfl ?_
    refine j_bipush (q := 16) (v := (6 : Int32)) hx (dc kX12_oneTooMany_0 8 rfl) (by decide) rfl ?_
    refine w_cSIR (q := 19) (As := [.int v10, .int (0 : Int32), .int (6 : Int32)]) (st := [vR x.2.2.2 x0]) hx (dc kX12_oneTooMany_0 9 rfl) (cI _ my_X12_in lm_X12_85 (by decide)) st_X12_in rfl (fun u hu => sX12_in _ _ _ _ _ _ _ hu) (sum_le (sum_R sum_nil) (by decide)) rfl (fun v11 => ?_)
    refine j_if_eq (q := 22) (tgt := 26) hx (dc kX12_oneTooMany_0 10 rfl) (by decide) Iff.rfl rfl ?_ ?_
    · refine j_iconst (q := 27) (v := (2 : Int32)) hx (dc kX12_oneTooMany_0 13 rfl) (by decide) rfl ?_
      exact hb27 x0 x0 (2 : Int32) h
    · refine j_iconst (q := 23) (v := (4 : Int32)) hx (dc kX12_oneTooMany_0 11 rfl) (by decide) rfl ?_
      refine j_goto (q := 27) hx (dc kX12_oneTooMany_0 12 rfl) (by decide) ?_
      exact hb27 x0 x0 (4 : Int32) h

set_option maxHeartbeats 4000000 in
set_option maxRecDepth 100000 in
theorem sX12_both_F (d : Nat) (hd : 9 ≤ d) (g : GTX12_both) (hg0 : ∀ (l : Launch) (w : Wd) (x0 : Nat) (h : Hp) (u : Hp), g.1 x0 h = some u → M1 l w mi_X12_both d [vR w x0] h u (none)) (hk0 : ∀ (x0 : Nat) (h : Hp), g.1 x0 h ≠ none → (hpS h x0).1 = 13) (hg1 : ∀ (l : Launch) (w : Wd) (x0 : Nat) (h : Hp) (u : Hp), g.2.1 x0 h = some u → M1 l w mi_X12_either d [vR w x0] h u (none)) (hk1 : ∀ (x0 : Nat) (h : Hp), g.2.1 x0 h ≠ none → (hpS h x0).1 = 13) (hg2 : ∀ (l : Launch) (w : Wd) (x0 : Nat) (h : Hp) (u : Hp), g.2.2.1 x0 h = some u → M1 l w mi_X12_one d [vR w x0] h u (none)) (hk2 : ∀ (x0 : Nat) (h : Hp), g.2.2.1 x0 h ≠ none → (hpS h x0).1 = 13) (hg3 : ∀ (l : Launch) (w : Wd) (x0 : Nat) (h : Hp) (u : Hp), g.2.2.2 x0 h = some u → M1 l w mi_X12_someOf d [vR w x0] h u (none)) (hk3 : ∀ (x0 : Nat) (h : Hp), g.2.2.2 x0 h ≠ none → (hpS h x0).1 = 13) (l : Launch) (w : Wd) (x0 : Nat) (h : Hp) (u : Hp) (hK : mX12_both_F g x0 h = some u) : M1 l w mi_X12_both (d + 1) [vR w x0] h u (none) := by
  refine M1.of (own := RX12) (T := fun _ r => r = u) hK (by decide +kernel) rfl (by first | (simp only [lg_lenR, lg_lenI, lg_lenL, lg_len0]; decide) | decide) (fun x hx hnl hhf hl hw hret hnm hQ h0e => ⟨?_, rfl⟩)
  subst hw
  subst hl
  have hR : Rt x h u (none) (none) := ⟨h0e, hhf, hret, hQ⟩
  have hn : ∀ i, i < 1 → i < x.2.2.1.1.1 := fun i hi => by rw [hnl]; exact hi
  have e0 : lv_args 0 [vR x.2.2.2 x0] = [(0, vR x.2.2.2 x0)] := by simp only [lv_argsR, lv_argsI, lv_argsL, lv_args0]
  rw [e0]
  have hb4 : ∀ (x0 : Nat) (h : Hp), J x 4 [(0, vR x.2.2.2 x0)] [] h (mX12_both_l4 g x0 h) (fun r => r = u) := by
    intro x0 h
    have hB : ∀ (h : Hp), J x 4 [(0, vR x.2.2.2 x0)] [] h (mX12_both_l4f g x0 h) (TL (S := Hp) x 4 (fun s => [(0, vR x.2.2.2 x0)]) [] (fun s => s) (fun r => r = u)) := by
      intro  h
      unfold mX12_both_l4f
      refine j_aload_n (q := 5) hx (dc kX12_both_0 2 rfl) rfl 0 rfl rfl ?_
      refine j_bipush (q := 7) (v := (38 : Int32)) hx (dc kX12_both_0 3 rfl) (by decide) rfl ?_
      refine w_cVIR (q := 10) (As := [.int (38 : Int32)]) (st := []) hx (dc kX12_both_0 4 rfl) cf12 (by decide) rfl (cI _ my_X12_isSign lm_X12_195 (by omega)) vs_X12_isSign rfl (fun u hu => sX12_isSign _ _ _ _ _ _ hu) (fun e => ite_ne (by unfold mX12_isSign at e; exact e)) (Nat.zero_le _) rfl (fun v3 => ?_)
      refine j_if_eq (q := 13) (tgt := 30) hx (dc kX12_both_0 5 rfl) (by decide) Iff.rfl rfl ?_ ?_
      · refine j_exit ?_
        exact r_vW hx hR (dc kX12_both_0 15 rfl)
      · refine j_aload_n (q := 14) hx (dc kX12_both_0 6 rfl) rfl 0 rfl rfl ?_
        refine w_cVVW (q := 17) (As := []) (st := []) hx (dc kX12_both_0 7 rfl) cf12 (by decide) rfl (cI _ my_X12_next lm_X12_162 (by omega)) vs_X12_next rfl (fun u hu => sX12_next _ _ _ _ _ hu) (fun e => ite_ne (by unfold mX12_next at e; exact e)) (Nat.zero_le _) rfl (fun h6 => ?_)
        refine j_aload_n (q := 18) hx (dc kX12_both_0 8 rfl) rfl 0 rfl rfl ?_
        refine w_cVVW (q := 21) (As := []) (st := []) hx (dc kX12_both_0 9 rfl) cf12 (by decide) rfl (cI _ my_X12_one lm_X12_203 (by omega)) vs_X12_one rfl (fun u hu => hg2 _ _ _ _ _ hu) (hk2 _ _) (Nat.zero_le _) rfl (fun h8 => ?_)
        refine j_aload_n (q := 22) hx (dc kX12_both_0 10 rfl) rfl 0 rfl rfl ?_
        refine j_iconst (q := 23) (v := (2 : Int32)) hx (dc kX12_both_0 11 rfl) (by decide) rfl ?_
        refine j_iconst (q := 24) (v := (0 : Int32)) hx (dc kX12_both_0 12 rfl) (by decide) rfl ?_
        refine w_cVVW (q := 27) (As := [.int (2 : Int32), .int (0 : Int32)]) (st := []) hx (dc kX12_both_0 13 rfl) cf12 (by decide) rfl (cI _ my_X12_step lm_X12_199 (by omega)) vs_X12_step rfl (fun u hu => sX12_step _ _ _ _ _ _ _ hu) (fun e => ite_ne (by unfold mX12_step at e; exact e)) (Nat.zero_le _) rfl (fun h10 => ?_)
        refine j_goto (q := 4) hx (dc kX12_both_0 14 rfl) (by decide) ?_
        exact j_back [0] h10 rfl rfl
    exact j_loop (S := Hp) (lvf := fun s => [(0, vR x.2.2.2 x0)]) (hpf := fun s => s) (f := (fun s : Hp => mX12_both_l4f g x0 s)) (fun s => hB s) h
  unfold mX12_both_F
  refine J.ckd fun hck => ?_
  refine j_aload_n (q := 1) hx (dc kX12_both_0 0 rfl) rfl 0 rfl rfl ?_
  refine w_cVVW (q := 4) (As := []) (st := []) hx (dc kX12_both_0 1 rfl) cf12 (by decide) rfl (cI _ my_X12_one lm_X12_203 (by omega)) vs_X12_one rfl (fun u hu => hg2 _ _ _ _ _ hu) (hk2 _ _) (Nat.zero_le _) rfl (fun h2 => ?_)
  exact hb4 x0 h2
set_option maxHeartbeats 4000000 in
set_option maxRecDepth 100000 in
theorem sX12_either_F (d : Nat) (hd : 9 ≤ d) (g : GTX12_both) (hg0 : ∀ (l : Launch) (w : Wd) (x0 : Nat) (h : Hp) (u : Hp), g.1 x0 h = some u → M1 l w mi_X12_both d [vR w x0] h u (none)) (hk0 : ∀ (x0 : Nat) (h : Hp), g.1 x0 h ≠ none → (hpS h x0).1 = 13) (hg1 : ∀ (l : Launch) (w : Wd) (x0 : Nat) (h : Hp) (u : Hp), g.2.1 x0 h = some u → M1 l w mi_X12_either d [vR w x0] h u (none)) (hk1 : ∀ (x0 : Nat) (h : Hp), g.2.1 x0 h ≠ none → (hpS h x0).1 = 13) (hg2 : ∀ (l : Launch) (w : Wd) (x0 : Nat) (h : Hp) (u : Hp), g.2.2.1 x0 h = some u → M1 l w mi_X12_one d [vR w x0] h u (none)) (hk2 : ∀ (x0 : Nat) (h : Hp), g.2.2.1 x0 h ≠ none → (hpS h x0).1 = 13) (hg3 : ∀ (l : Launch) (w : Wd) (x0 : Nat) (h : Hp) (u : Hp), g.2.2.2 x0 h = some u → M1 l w mi_X12_someOf d [vR w x0] h u (none)) (hk3 : ∀ (x0 : Nat) (h : Hp), g.2.2.2 x0 h ≠ none → (hpS h x0).1 = 13) (l : Launch) (w : Wd) (x0 : Nat) (h : Hp) (u : Hp) (hK : mX12_either_F g x0 h = some u) : M1 l w mi_X12_either (d + 1) [vR w x0] h u (none) := by
  refine M1.of (own := RX12) (T := fun _ r => r = u) hK (by decide +kernel) rfl (by first | (simp only [lg_lenR, lg_lenI, lg_lenL, lg_len0]; decide) | decide) (fun x hx hnl hhf hl hw hret hnm hQ h0e => ⟨?_, rfl⟩)
  subst hw
  subst hl
  have hR : Rt x h u (none) (none) := ⟨h0e, hhf, hret, hQ⟩
  have hn : ∀ i, i < 1 → i < x.2.2.1.1.1 := fun i hi => by rw [hnl]; exact hi
  have e0 : lv_args 0 [vR x.2.2.2 x0] = [(0, vR x.2.2.2 x0)] := by simp only [lv_argsR, lv_argsI, lv_argsL, lv_args0]
  rw [e0]
  have hb4 : ∀ (x0 : Nat) (h : Hp), J x 4 [(0, vR x.2.2.2 x0)] [] h (mX12_either_l4 g x0 h) (fun r => r = u) := by
    intro x0 h
    have hB : ∀ (h : Hp), J x 4 [(0, vR x.2.2.2 x0)] [] h (mX12_either_l4f g x0 h) (TL (S := Hp) x 4 (fun s => [(0, vR x.2.2.2 x0)]) [] (fun s => s) (fun r => r = u)) := by
      intro  h
      unfold mX12_either_l4f
      refine j_aload_n (q := 5) hx (dc kX12_either_0 2 rfl) rfl 0 rfl rfl ?_
      refine j_bipush (q := 7) (v := (124 : Int32)) hx (dc kX12_either_0 3 rfl) (by decide) rfl ?_
      refine w_cVIR (q := 10) (As := [.int (124 : Int32)]) (st := []) hx (dc kX12_either_0 4 rfl) cf12 (by decide) rfl (cI _ my_X12_isSign lm_X12_195 (by omega)) vs_X12_isSign rfl (fun u hu => sX12_isSign _ _ _ _ _ _ hu) (fun e => ite_ne (by unfold mX12_isSign at e; exact e)) (Nat.zero_le _) rfl (fun v3 => ?_)
      refine j_if_eq (q := 13) (tgt := 30) hx (dc kX12_either_0 5 rfl) (by decide) Iff.rfl rfl ?_ ?_
      · refine j_exit ?_
        exact r_vW hx hR (dc kX12_either_0 15 rfl)
      · refine j_aload_n (q := 14) hx (dc kX12_either_0 6 rfl) rfl 0 rfl rfl ?_
        refine w_cVVW (q := 17) (As := []) (st := []) hx (dc kX12_either_0 7 rfl) cf12 (by decide) rfl (cI _ my_X12_next lm_X12_162 (by omega)) vs_X12_next rfl (fun u hu => sX12_next _ _ _ _ _ hu) (fun e => ite_ne (by unfold mX12_next at e; exact e)) (Nat.zero_le _) rfl (fun h6 => ?_)
        refine j_aload_n (q := 18) hx (dc kX12_either_0 8 rfl) rfl 0 rfl rfl ?_
        refine w_cVVW (q := 21) (As := []) (st := []) hx (dc kX12_either_0 9 rfl) cf12 (by decide) rfl (cI _ my_X12_both lm_X12_192 (by omega)) vs_X12_both rfl (fun u hu => hg0 _ _ _ _ _ hu) (hk0 _ _) (Nat.zero_le _) rfl (fun h8 => ?_)
        refine j_aload_n (q := 22) hx (dc kX12_either_0 10 rfl) rfl 0 rfl rfl ?_
        refine j_iconst (q := 23) (v := (3 : Int32)) hx (dc kX12_either_0 11 rfl) (by decide) rfl ?_
        refine j_iconst (q := 24) (v := (0 : Int32)) hx (dc kX12_either_0 12 rfl) (by decide) rfl ?_
        refine w_cVVW (q := 27) (As := [.int (3 : Int32), .int (0 : Int32)]) (st := []) hx (dc kX12_either_0 13 rfl) cf12 (by decide) rfl (cI _ my_X12_step lm_X12_199 (by omega)) vs_X12_step rfl (fun u hu => sX12_step _ _ _ _ _ _ _ hu) (fun e => ite_ne (by unfold mX12_step at e; exact e)) (Nat.zero_le _) rfl (fun h10 => ?_)
        refine j_goto (q := 4) hx (dc kX12_either_0 14 rfl) (by decide) ?_
        exact j_back [0] h10 rfl rfl
    exact j_loop (S := Hp) (lvf := fun s => [(0, vR x.2.2.2 x0)]) (hpf := fun s => s) (f := (fun s : Hp => mX12_either_l4f g x0 s)) (fun s => hB s) h
  unfold mX12_either_F
  refine J.ckd fun hck => ?_
  refine j_aload_n (q := 1) hx (dc kX12_either_0 0 rfl) rfl 0 rfl rfl ?_
  refine w_cVVW (q := 4) (As := []) (st := []) hx (dc kX12_either_0 1 rfl) cf12 (by decide) rfl (cI _ my_X12_both lm_X12_192 (by omega)) vs_X12_both rfl (fun u hu => hg0 _ _ _ _ _ hu) (hk0 _ _) (Nat.zero_le _) rfl (fun h2 => ?_)
  exact hb4 x0 h2
set_option maxHeartbeats 4000000 in
set_option maxRecDepth 100000 in
theorem sX12_one_F (d : Nat) (hd : 9 ≤ d) (g : GTX12_both) (hg0 : ∀ (l : Launch) (w : Wd) (x0 : Nat) (h : Hp) (u : Hp), g.1 x0 h = some u → M1 l w mi_X12_both d [vR w x0] h u (none)) (hk0 : ∀ (x0 : Nat) (h : Hp), g.1 x0 h ≠ none → (hpS h x0).1 = 13) (hg1 : ∀ (l : Launch) (w : Wd) (x0 : Nat) (h : Hp) (u : Hp), g.2.1 x0 h = some u → M1 l w mi_X12_either d [vR w x0] h u (none)) (hk1 : ∀ (x0 : Nat) (h : Hp), g.2.1 x0 h ≠ none → (hpS h x0).1 = 13) (hg2 : ∀ (l : Launch) (w : Wd) (x0 : Nat) (h : Hp) (u : Hp), g.2.2.1 x0 h = some u → M1 l w mi_X12_one d [vR w x0] h u (none)) (hk2 : ∀ (x0 : Nat) (h : Hp), g.2.2.1 x0 h ≠ none → (hpS h x0).1 = 13) (hg3 : ∀ (l : Launch) (w : Wd) (x0 : Nat) (h : Hp) (u : Hp), g.2.2.2 x0 h = some u → M1 l w mi_X12_someOf d [vR w x0] h u (none)) (hk3 : ∀ (x0 : Nat) (h : Hp), g.2.2.2 x0 h ≠ none → (hpS h x0).1 = 13) (l : Launch) (w : Wd) (x0 : Nat) (h : Hp) (u : Hp) (hK : mX12_one_F g x0 h = some u) : M1 l w mi_X12_one (d + 1) [vR w x0] h u (none) := by
  refine M1.of (own := RX12) (T := fun _ r => r = u) hK (by decide +kernel) rfl (by first | (simp only [lg_lenR, lg_lenI, lg_lenL, lg_len0]; decide) | decide) (fun x hx hnl hhf hl hw hret hnm hQ h0e => ⟨?_, rfl⟩)
  subst hw
  subst hl
  have hR : Rt x h u (none) (none) := ⟨h0e, hhf, hret, hQ⟩
  have hn : ∀ i, i < 1 → i < x.2.2.1.1.1 := fun i hi => by rw [hnl]; exact hi
  have e0 : lv_args 0 [vR x.2.2.2 x0] = [(0, vR x.2.2.2 x0)] := by simp only [lv_argsR, lv_argsI, lv_argsL, lv_args0]
  rw [e0]
  unfold mX12_one_F
  refine J.ckd fun hck => ?_
  refine j_aload_n (q := 1) hx (dc kX12_one_0 0 rfl) rfl 0 rfl rfl ?_
  refine w_gI (q := 4) hx (dc kX12_one_0 1 rfl) ff_X12_17 lk_X12_126 rfl (fun v1 => ?_)
  refine j_if_eq (q := 7) (tgt := 8) hx (dc kX12_one_0 2 rfl) (by decide) Iff.rfl rfl ?_ ?_
  · refine j_aload_n (q := 9) hx (dc kX12_one_0 4 rfl) rfl 0 rfl rfl ?_
    refine j_bipush (q := 11) (v := (33 : Int32)) hx (dc kX12_one_0 5 rfl) (by decide) rfl ?_
    refine w_cVIR (q := 14) (As := [.int (33 : Int32)]) (st := []) hx (dc kX12_one_0 6 rfl) cf12 (by decide) rfl (cI _ my_X12_isSign lm_X12_195 (by omega)) vs_X12_isSign rfl (fun u hu => sX12_isSign _ _ _ _ _ _ hu) (fun e => ite_ne (by unfold mX12_isSign at e; exact e)) (Nat.zero_le _) rfl (fun v2 => ?_)
    refine j_if_eq (q := 17) (tgt := 44) hx (dc kX12_one_0 7 rfl) (by decide) Iff.rfl rfl ?_ ?_
    · refine j_aload_n (q := 45) hx (dc kX12_one_0 23 rfl) rfl 0 rfl rfl ?_
      refine j_bipush (q := 47) (v := (40 : Int32)) hx (dc kX12_one_0 24 rfl) (by decide) rfl ?_
      refine w_cVIR (q := 50) (As := [.int (40 : Int32)]) (st := []) hx (dc kX12_one_0 25 rfl) cf12 (by decide) rfl (cI _ my_X12_isSign lm_X12_195 (by omega)) vs_X12_isSign rfl (fun u hu => sX12_isSign _ _ _ _ _ _ hu) (fun e => ite_ne (by unfold mX12_isSign at e; exact e)) (Nat.zero_le _) rfl (fun v4 => ?_)
      refine j_if_eq (q := 53) (tgt := 84) hx (dc kX12_one_0 26 rfl) (by decide) Iff.rfl rfl ?_ ?_
      · refine j_aload_n (q := 85) hx (dc kX12_one_0 43 rfl) rfl 0 rfl rfl ?_
        refine w_gI (q := 88) hx (dc kX12_one_0 44 rfl) ff_X12_14 lk_X12_109 rfl (fun v6 => ?_)
        refine j_iconst (q := 89) (v := (3 : Int32)) hx (dc kX12_one_0 45 rfl) (by decide) rfl ?_
        refine j_icmp_neS (q := 92) (tgt := 99) hx (dc kX12_one_0 46 rfl) (by decide) rfl ?_ ?_
        · refine j_aload_n (q := 100) hx (dc kX12_one_0 50 rfl) rfl 0 rfl rfl ?_
          refine j_iconst (q := 101) (v := (0 : Int32)) hx (dc kX12_one_0 51 rfl) (by decide) rfl ?_
          refine j_aload_n (q := 102) hx (dc kX12_one_0 52 rfl) rfl 0 rfl rfl ?_
          refine j_iconst (q := 103) (v := (1 : Int32)) hx (dc kX12_one_0 53 rfl) (by decide) rfl ?_
          refine w_cVIW (q := 106) (As := [.int (1 : Int32)]) (st := [.int (0 : Int32), vR x.2.2.2 x0]) hx (dc kX12_one_0 54 rfl) cf12 (by decide) rfl (cI _ my_X12_known lm_X12_216 (by omega)) vs_X12_known rfl (fun u hu => sX12_known _ _ _ _ _ _ hu) (fun e => ite_ne (by unfold mX12_known at e; exact e)) (sum_le (sum_I (sum_R sum_nil)) (by decide)) rfl (fun v7 h8 => ?_)
          refine w_cVVW (q := 109) (As := [.int (0 : Int32), .int v7]) (st := []) hx (dc kX12_one_0 55 rfl) cf12 (by decide) rfl (cI _ my_X12_step lm_X12_199 (by omega)) vs_X12_step rfl (fun u hu => sX12_step _ _ _ _ _ _ _ hu) (fun e => ite_ne (by unfold mX12_step at e; exact e)) (Nat.zero_le _) rfl (fun h10 => ?_)
          exact r_vW hx hR (dc kX12_one_0 56 rfl)
        · refine j_aload_n (q := 93) hx (dc kX12_one_0 47 rfl) rfl 0 rfl rfl ?_
          refine w_cVVW (q := 96) (As := []) (st := []) hx (dc kX12_one_0 48 rfl) cf12 (by decide) rfl (cI _ my_X12_someOf lm_X12_213 (by omega)) vs_X12_someOf rfl (fun u hu => hg3 _ _ _ _ _ hu) (hk3 _ _) (Nat.zero_le _) rfl (fun h12 => ?_)
          refine j_goto (q := 109) hx (dc kX12_one_0 49 rfl) (by decide) ?_
          exact r_vW hx hR (dc kX12_one_0 56 rfl)
      · refine j_aload_n (q := 54) hx (dc kX12_one_0 27 rfl) rfl 0 rfl rfl ?_
        refine w_cVVW (q := 57) (As := []) (st := []) hx (dc kX12_one_0 28 rfl) cf12 (by decide) rfl (cI _ my_X12_opens lm_X12_206 (by omega)) vs_X12_opens rfl (fun u hu => sX12_opens _ _ _ _ _ hu) (fun e => ite_ne (by unfold mX12_opens at e; exact e)) (Nat.zero_le _) rfl (fun h14 => ?_)
        refine j_aload_n (q := 58) hx (dc kX12_one_0 29 rfl) rfl 0 rfl rfl ?_
        refine w_cVVW (q := 61) (As := []) (st := []) hx (dc kX12_one_0 30 rfl) cf12 (by decide) rfl (cI _ my_X12_either lm_X12_189 (by omega)) vs_X12_either rfl (fun u hu => hg1 _ _ _ _ _ hu) (hk1 _ _) (Nat.zero_le _) rfl (fun h16 => ?_)
        refine j_aload_n (q := 62) hx (dc kX12_one_0 31 rfl) rfl 0 rfl rfl ?_
        refine j_aload_n (q := 63) hx (dc kX12_one_0 32 rfl) rfl 0 rfl rfl ?_
        refine j_bipush (q := 65) (v := (41 : Int32)) hx (dc kX12_one_0 33 rfl) (by decide) rfl ?_
        refine w_cVIR (q := 68) (As := [.int (41 : Int32)]) (st := [vR x.2.2.2 x0]) hx (dc kX12_one_0 34 rfl) cf12 (by decide) rfl (cI _ my_X12_isSign lm_X12_195 (by omega)) vs_X12_isSign rfl (fun u hu => sX12_isSign _ _ _ _ _ _ hu) (fun e => ite_ne (by unfold mX12_isSign at e; exact e)) (sum_le (sum_R sum_nil) (by decide)) rfl (fun v17 => ?_)
        refine w_cVVW (q := 71) (As := [.int v17]) (st := []) hx (dc kX12_one_0 35 rfl) cf12 (by decide) rfl (cI _ my_X12_must lm_X12_209 (by omega)) vs_X12_must rfl (fun u hu => sX12_must _ _ _ _ _ _ hu) (fun e => ite_ne (by unfold mX12_must at e; exact e)) (Nat.zero_le _) rfl (fun h20 => ?_)
        refine j_aload_n (q := 72) hx (dc kX12_one_0 36 rfl) rfl 0 rfl rfl ?_
        refine j_dup (q := 73) hx (dc kX12_one_0 37 rfl) (vR_cat _ _) rfl ?_
        refine w_gI (q := 76) hx (dc kX12_one_0 38 rfl) ff_X12_16 lk_X12_186 rfl (fun v21 => ?_)
        refine j_iconst (q := 77) (v := (1 : Int32)) hx (dc kX12_one_0 39 rfl) (by decide) rfl ?_
        refine j_isub (q := 78) hx (dc kX12_one_0 40 rfl) rfl ?_
        refine w_sI (q := 81) hx (dc kX12_one_0 41 rfl) ff_X12_16 rfl lk_X12_186 (Or.inl rfl) rfl (fun h22 => ?_)
        refine j_goto (q := 109) hx (dc kX12_one_0 42 rfl) (by decide) ?_
        exact r_vW hx hR (dc kX12_one_0 56 rfl)
    · refine j_aload_n (q := 18) hx (dc kX12_one_0 8 rfl) rfl 0 rfl rfl ?_
      refine w_cVVW (q := 21) (As := []) (st := []) hx (dc kX12_one_0 9 rfl) cf12 (by decide) rfl (cI _ my_X12_opens lm_X12_206 (by omega)) vs_X12_opens rfl (fun u hu => sX12_opens _ _ _ _ _ hu) (fun e => ite_ne (by unfold mX12_opens at e; exact e)) (Nat.zero_le _) rfl (fun h24 => ?_)
      refine j_aload_n (q := 22) hx (dc kX12_one_0 10 rfl) rfl 0 rfl rfl ?_
      refine w_cVVW (q := 25) (As := []) (st := []) hx (dc kX12_one_0 11 rfl) cf12 (by decide) rfl (cI _ my_X12_one lm_X12_203 (by omega)) vs_X12_one rfl (fun u hu => hg2 _ _ _ _ _ hu) (hk2 _ _) (Nat.zero_le _) rfl (fun h26 => ?_)
      refine j_aload_n (q := 26) hx (dc kX12_one_0 12 rfl) rfl 0 rfl rfl ?_
      refine j_dup (q := 27) hx (dc kX12_one_0 13 rfl) (vR_cat _ _) rfl ?_
      refine w_gI (q := 30) hx (dc kX12_one_0 14 rfl) ff_X12_16 lk_X12_186 rfl (fun v27 => ?_)
      refine j_iconst (q := 31) (v := (1 : Int32)) hx (dc kX12_one_0 15 rfl) (by decide) rfl ?_
      refine j_isub (q := 32) hx (dc kX12_one_0 16 rfl) rfl ?_
      refine w_sI (q := 35) hx (dc kX12_one_0 17 rfl) ff_X12_16 rfl lk_X12_186 (Or.inl rfl) rfl (fun h28 => ?_)
      refine j_aload_n (q := 36) hx (dc kX12_one_0 18 rfl) rfl 0 rfl rfl ?_
      refine j_iconst (q := 37) (v := (1 : Int32)) hx (dc kX12_one_0 19 rfl) (by decide) rfl ?_
      refine j_iconst (q := 38) (v := (0 : Int32)) hx (dc kX12_one_0 20 rfl) (by decide) rfl ?_
      refine w_cVVW (q := 41) (As := [.int (1 : Int32), .int (0 : Int32)]) (st := []) hx (dc kX12_one_0 21 rfl) cf12 (by decide) rfl (cI _ my_X12_step lm_X12_199 (by omega)) vs_X12_step rfl (fun u hu => sX12_step _ _ _ _ _ _ _ hu) (fun e => ite_ne (by unfold mX12_step at e; exact e)) (Nat.zero_le _) rfl (fun h30 => ?_)
      refine j_goto (q := 109) hx (dc kX12_one_0 22 rfl) (by decide) ?_
      exact r_vW hx hR (dc kX12_one_0 56 rfl)
  · exact r_vW hx hR (dc kX12_one_0 3 rfl)
set_option maxHeartbeats 4000000 in
set_option maxRecDepth 100000 in
theorem sX12_someOf_F (d : Nat) (hd : 9 ≤ d) (g : GTX12_both) (hg0 : ∀ (l : Launch) (w : Wd) (x0 : Nat) (h : Hp) (u : Hp), g.1 x0 h = some u → M1 l w mi_X12_both d [vR w x0] h u (none)) (hk0 : ∀ (x0 : Nat) (h : Hp), g.1 x0 h ≠ none → (hpS h x0).1 = 13) (hg1 : ∀ (l : Launch) (w : Wd) (x0 : Nat) (h : Hp) (u : Hp), g.2.1 x0 h = some u → M1 l w mi_X12_either d [vR w x0] h u (none)) (hk1 : ∀ (x0 : Nat) (h : Hp), g.2.1 x0 h ≠ none → (hpS h x0).1 = 13) (hg2 : ∀ (l : Launch) (w : Wd) (x0 : Nat) (h : Hp) (u : Hp), g.2.2.1 x0 h = some u → M1 l w mi_X12_one d [vR w x0] h u (none)) (hk2 : ∀ (x0 : Nat) (h : Hp), g.2.2.1 x0 h ≠ none → (hpS h x0).1 = 13) (hg3 : ∀ (l : Launch) (w : Wd) (x0 : Nat) (h : Hp) (u : Hp), g.2.2.2 x0 h = some u → M1 l w mi_X12_someOf d [vR w x0] h u (none)) (hk3 : ∀ (x0 : Nat) (h : Hp), g.2.2.2 x0 h ≠ none → (hpS h x0).1 = 13) (l : Launch) (w : Wd) (x0 : Nat) (h : Hp) (u : Hp) (hK : mX12_someOf_F g x0 h = some u) : M1 l w mi_X12_someOf (d + 1) [vR w x0] h u (none) := by
  refine M1.of (own := RX12) (T := fun _ r => r = u) hK (by decide +kernel) rfl (by first | (simp only [lg_lenR, lg_lenI, lg_lenL, lg_len0]; decide) | decide) (fun x hx hnl hhf hl hw hret hnm hQ h0e => ⟨?_, rfl⟩)
  subst hw
  subst hl
  have hR : Rt x h u (none) (none) := ⟨h0e, hhf, hret, hQ⟩
  have hn : ∀ i, i < 4 → i < x.2.2.1.1.1 := fun i hi => by rw [hnl]; exact hi
  have e0 : lv_args 0 [vR x.2.2.2 x0] = [(0, vR x.2.2.2 x0)] := by simp only [lv_argsR, lv_argsI, lv_argsL, lv_args0]
  rw [e0]
  have hb51 : ∀ (x0 : Nat) (x1 : Int32) (x2 : Int32) (x3 : Int32) (h : Hp), J x 51 [(0, vR x.2.2.2 x0), (1, .int x1), (2, .int x2), (3, .int x3)] [] h (mX12_someOf_l51 g x0 x1 x2 x3 h) (fun r => r = u) := by
    intro x0 x1 x2 x3 h
    have hB : ∀ (x2 : Int32) (x3 : Int32) (h : Hp), J x 51 [(0, vR x.2.2.2 x0), (1, .int x1), (2, .int x2), (3, .int x3)] [] h (mX12_someOf_l51f g x0 x1 x2 x3 h) (TL (S := (Int32 × Int32 × Hp)) x 51 (fun s => [(0, vR x.2.2.2 x0), (1, .int x1), (2, .int s.1), (3, .int s.2.1)]) [] (fun s => s.2.2) (fun r => r = u)) := by
      intro x2 x3 h
      have hb65 : ∀ (x0 : Nat) (x1 : Int32) (x2 : Int32) (h : Hp), J x 65 [(0, vR x.2.2.2 x0), (1, .int x1), (2, .int x2)] [] h (mX12_someOf_b65 g x0 x1 x2 h) (TL (S := (Int32 × Int32 × Hp)) x 51 (fun s => [(0, vR x.2.2.2 x0), (1, .int x1), (2, .int s.1), (3, .int s.2.1)]) [] (fun s => s.2.2) (fun r => r = u)) := by
        intro x0 x1 x2 h
        unfold mX12_someOf_b65
        refine j_aload_n (q := 66) hx (dc kX12_someOf_0 35 rfl) rfl 0 rfl rfl ?_
        refine w_cVVW (q := 69) (As := []) (st := []) hx (dc kX12_someOf_0 36 rfl) cf12 (by decide) rfl (cI _ my_X12_either lm_X12_189 (by omega)) vs_X12_either rfl (fun u hu => hg1 _ _ _ _ _ hu) (hk1 _ _) (Nat.zero_le _) rfl (fun h21 => ?_)
        refine j_iinc (q := 72) (l2 := [(0, vR x.2.2.2 x0), (1, .int x1)]) hx (dc kX12_someOf_0 37 rfl) 2 rfl (v := (1 : Int32)) (by decide) (hn 2 (by decide)) [0, 1] rfl ⟨⟨show (0 : Nat) ≠ 2 by decide, Or.inl (show (0 : Nat) + 1 ≠ 2 by decide)⟩, ⟨⟨show (1 : Nat) ≠ 2 by decide, Or.inr rfl⟩, trivial⟩⟩ rfl ?_
        refine j_aload_n (q := 73) hx (dc kX12_someOf_0 38 rfl) rfl 1 rfl rfl ?_
        refine j_bipush (q := 75) (v := (44 : Int32)) hx (dc kX12_someOf_0 39 rfl) (by decide) rfl ?_
        refine w_cVIR (q := 78) (As := [.int (44 : Int32)]) (st := []) hx (dc kX12_someOf_0 40 rfl) cf12 (by decide) rfl (cI _ my_X12_isSign lm_X12_195 (by omega)) vs_X12_isSign rfl (fun u hu => sX12_isSign _ _ _ _ _ _ hu) (fun e => ite_ne (by unfold mX12_isSign at e; exact e)) (Nat.zero_le _) rfl (fun v22 => ?_)
        refine j_istore_n (q := 79) (i := 3) (l2 := [(2, .int (x2 + (1 : Int32))), (0, vR x.2.2.2 x0), (1, .int x1)]) hx (dc kX12_someOf_0 41 rfl) rfl (hn 3 (by decide)) [0, 1, 2] rfl ⟨⟨show (2 : Nat) ≠ 3 by decide, Or.inr rfl⟩, ⟨⟨show (0 : Nat) ≠ 3 by decide, Or.inl (show (0 : Nat) + 1 ≠ 3 by decide)⟩, ⟨⟨show (1 : Nat) ≠ 3 by decide, Or.inl (show (1 : Nat) + 1 ≠ 3 by decide)⟩, trivial⟩⟩⟩ rfl ?_
        refine j_iload_n (q := 80) hx (dc kX12_someOf_0 42 rfl) rfl 0 rfl rfl ?_
        refine j_if_eq (q := 83) (tgt := 51) hx (dc kX12_someOf_0 43 rfl) (by decide) Iff.rfl rfl ?_ ?_
        · exact j_back [2, 3, 1, 0] ((x2 + (1 : Int32)), v22, h21) rfl rfl
        · refine j_aload_n (q := 84) hx (dc kX12_someOf_0 44 rfl) rfl 2 rfl rfl ?_
          refine w_cVVW (q := 87) (As := []) (st := []) hx (dc kX12_someOf_0 45 rfl) cf12 (by decide) rfl (cI _ my_X12_next lm_X12_162 (by omega)) vs_X12_next rfl (fun u hu => sX12_next _ _ _ _ _ hu) (fun e => ite_ne (by unfold mX12_next at e; exact e)) (Nat.zero_le _) rfl (fun h25 => ?_)
          refine j_goto (q := 51) hx (dc kX12_someOf_0 46 rfl) (by decide) ?_
          exact j_back [2, 3, 1, 0] ((x2 + (1 : Int32)), v22, h25) rfl rfl
      unfold mX12_someOf_l51f
      refine j_iload_n (q := 52) hx (dc kX12_someOf_0 28 rfl) rfl 3 rfl rfl ?_
      refine j_if_eq (q := 55) (tgt := 90) hx (dc kX12_someOf_0 29 rfl) (by decide) Iff.rfl rfl ?_ ?_
      · refine j_exit ?_
        refine j_aload_n (q := 91) hx (dc kX12_someOf_0 47 rfl) rfl 0 rfl rfl ?_
        refine j_aload_n (q := 92) hx (dc kX12_someOf_0 48 rfl) rfl 0 rfl rfl ?_
        refine j_bipush (q := 94) (v := (41 : Int32)) hx (dc kX12_someOf_0 49 rfl) (by decide) rfl ?_
        refine w_cVIR (q := 97) (As := [.int (41 : Int32)]) (st := [vR x.2.2.2 x0]) hx (dc kX12_someOf_0 50 rfl) cf12 (by decide) rfl (cI _ my_X12_isSign lm_X12_195 (by omega)) vs_X12_isSign rfl (fun u hu => sX12_isSign _ _ _ _ _ _ hu) (fun e => ite_ne (by unfold mX12_isSign at e; exact e)) (sum_le (sum_R sum_nil) (by decide)) rfl (fun v12 => ?_)
        refine w_cVVW (q := 100) (As := [.int v12]) (st := []) hx (dc kX12_someOf_0 51 rfl) cf12 (by decide) rfl (cI _ my_X12_must lm_X12_209 (by omega)) vs_X12_must rfl (fun u hu => sX12_must _ _ _ _ _ _ hu) (fun e => ite_ne (by unfold mX12_must at e; exact e)) (Nat.zero_le _) rfl (fun h15 => ?_)
        refine j_aload_n (q := 101) hx (dc kX12_someOf_0 52 rfl) rfl 0 rfl rfl ?_
        refine j_dup (q := 102) hx (dc kX12_someOf_0 53 rfl) (vR_cat _ _) rfl ?_
        refine w_gI (q := 105) hx (dc kX12_someOf_0 54 rfl) ff_X12_16 lk_X12_186 rfl (fun v16 => ?_)
        refine j_iconst (q := 106) (v := (1 : Int32)) hx (dc kX12_someOf_0 55 rfl) (by decide) rfl ?_
        refine j_isub (q := 107) hx (dc kX12_someOf_0 56 rfl) rfl ?_
        refine w_sI (q := 110) hx (dc kX12_someOf_0 57 rfl) ff_X12_16 rfl lk_X12_186 (Or.inl rfl) rfl (fun h17 => ?_)
        refine j_aload_n (q := 111) hx (dc kX12_someOf_0 58 rfl) rfl 0 rfl rfl ?_
        refine j_iconst (q := 112) (v := (4 : Int32)) hx (dc kX12_someOf_0 59 rfl) (by decide) rfl ?_
        refine j_bipush (q := 114) (v := (10 : Int32)) hx (dc kX12_someOf_0 60 rfl) (by decide) rfl ?_
        refine j_iload_n (q := 115) hx (dc kX12_someOf_0 61 rfl) rfl 1 rfl rfl ?_
        refine j_imul (q := 116) hx (dc kX12_someOf_0 62 rfl) rfl ?_
        refine j_iload_n (q := 117) hx (dc kX12_someOf_0 63 rfl) rfl 2 rfl rfl ?_
        refine j_iadd (q := 118) hx (dc kX12_someOf_1 0 rfl) rfl ?_
        refine w_cVVW (q := 121) (As := [.int (4 : Int32), .int (((10 : Int32) * x1) + x2)]) (st := []) hx (dc kX12_someOf_1 1 rfl) cf12 (by decide) rfl (cI _ my_X12_step lm_X12_199 (by omega)) vs_X12_step rfl (fun u hu => sX12_step _ _ _ _ _ _ _ hu) (fun e => ite_ne (by unfold mX12_step at e; exact e)) (Nat.zero_le _) rfl (fun h19 => ?_)
        exact r_vW hx hR (dc kX12_someOf_1 2 rfl)
      · refine j_iload_n (q := 56) hx (dc kX12_someOf_0 30 rfl) rfl 2 rfl rfl ?_
        refine j_bipush (q := 58) (v := (6 : Int32)) hx (dc kX12_someOf_0 31 rfl) (by decide) rfl ?_
        refine j_icmp_neS (q := 61) (tgt := 65) hx (dc kX12_someOf_0 32 rfl) (by decide) rfl ?_ ?_
        · exact j_sub [0, 1, 2] rfl (hb65 x0 x1 x2 h)
        · refine j_aload_n (q := 62) hx (dc kX12_someOf_0 33 rfl) rfl 0 rfl rfl ?_
          refine w_cVVW (q := 65) (As := []) (st := []) hx (dc kX12_someOf_0 34 rfl) cf12 (by decide) rfl (cI _ my_X12_oneTooMany lm_X12_223 (by omega)) vs_X12_oneTooMany rfl (fun u hu => sX12_oneTooMany _ _ _ _ _ hu) (fun e => ite_ne (by unfold mX12_oneTooMany at e; exact e)) (Nat.zero_le _) rfl (fun h27 => ?_)
          exact j_sub [0, 1, 2] rfl (hb65 x0 x1 x2 h27)
    exact j_loop (S := (Int32 × Int32 × Hp)) (lvf := fun s => [(0, vR x.2.2.2 x0), (1, .int x1), (2, .int s.1), (3, .int s.2.1)]) (hpf := fun s => s.2.2) (f := (fun s : (Int32 × Int32 × Hp) => mX12_someOf_l51f g x0 x1 s.1 s.2.1 s.2.2)) (fun s => hB s.1 s.2.1 s.2.2) (x2, x3, h)
  have hb50 : ∀ (x0 : Nat) (x1 : Int32) (x2 : Int32) (t0 : Int32) (h : Hp), J x 50 [(0, vR x.2.2.2 x0), (1, .int x1), (2, .int x2)] [.int t0] h (mX12_someOf_b50 g x0 x1 x2 t0 h) (fun r => r = u) := by
    intro x0 x1 x2 t0 h
    unfold mX12_someOf_b50
    refine j_istore_n (q := 51) (i := 3) (l2 := [(0, vR x.2.2.2 x0), (1, .int x1), (2, .int x2)]) hx (dc kX12_someOf_0 27 rfl) rfl (hn 3 (by decide)) [0, 1, 2] rfl ⟨⟨show (0 : Nat) ≠ 3 by decide, Or.inl (show (0 : Nat) + 1 ≠ 3 by decide)⟩, ⟨⟨show (1 : Nat) ≠ 3 by decide, Or.inl (show (1 : Nat) + 1 ≠ 3 by decide)⟩, ⟨⟨show (2 : Nat) ≠ 3 by decide, Or.inr rfl⟩, trivial⟩⟩⟩ rfl ?_
    exact j_sub [1, 2, 3, 0] rfl (hb51 x0 x1 x2 t0 h)
  have hb32 : ∀ (x0 : Nat) (x1 : Int32) (h : Hp), J x 32 [(0, vR x.2.2.2 x0), (1, .int x1)] [] h (mX12_someOf_b32 g x0 x1 h) (fun r => r = u) := by
    intro x0 x1 h
    unfold mX12_someOf_b32
    refine j_aload_n (q := 33) hx (dc kX12_someOf_0 17 rfl) rfl 0 rfl rfl ?_
    refine w_cVVW (q := 36) (As := []) (st := []) hx (dc kX12_someOf_0 18 rfl) cf12 (by decide) rfl (cI _ my_X12_opens lm_X12_206 (by omega)) vs_X12_opens rfl (fun u hu => sX12_opens _ _ _ _ _ hu) (fun e => ite_ne (by unfold mX12_opens at e; exact e)) (Nat.zero_le _) rfl (fun h10 => ?_)
    refine j_iconst (q := 37) (v := (0 : Int32)) hx (dc kX12_someOf_0 19 rfl) (by decide) rfl ?_
    refine j_istore_n (q := 38) (i := 2) (l2 := [(0, vR x.2.2.2 x0), (1, .int x1)]) hx (dc kX12_someOf_0 20 rfl) rfl (hn 2 (by decide)) [0, 1] rfl ⟨⟨show (0 : Nat) ≠ 2 by decide, Or.inl (show (0 : Nat) + 1 ≠ 2 by decide)⟩, ⟨⟨show (1 : Nat) ≠ 2 by decide, Or.inr rfl⟩, trivial⟩⟩ rfl ?_
    refine j_aload_n (q := 39) hx (dc kX12_someOf_0 21 rfl) rfl 1 rfl rfl ?_
    refine w_gI (q := 42) hx (dc kX12_someOf_0 22 rfl) ff_X12_17 lk_X12_126 rfl (fun v11 => ?_)
    refine j_if_neS (q := 45) (tgt := 49) hx (dc kX12_someOf_0 23 rfl) (by decide) rfl ?_ ?_
    · refine j_iconst (q := 50) (v := (0 : Int32)) hx (dc kX12_someOf_0 26 rfl) (by decide) rfl ?_
      exact j_sub [1, 2, 0] rfl (hb50 x0 x1 (0 : Int32) (0 : Int32) h10)
    · refine j_iconst (q := 46) (v := (1 : Int32)) hx (dc kX12_someOf_0 24 rfl) (by decide) rfl ?_
      refine j_goto (q := 50) hx (dc kX12_someOf_0 25 rfl) (by decide) ?_
      exact j_sub [1, 2, 0] rfl (hb50 x0 x1 (0 : Int32) (1 : Int32) h10)
  unfold mX12_someOf_F
  refine J.ckd fun hck => ?_
  refine j_aload_n (q := 1) hx (dc kX12_someOf_0 0 rfl) rfl 0 rfl rfl ?_
  refine j_iconst (q := 2) (v := (0 : Int32)) hx (dc kX12_someOf_0 1 rfl) (by decide) rfl ?_
  refine j_bipush (q := 4) (v := (6 : Int32)) hx (dc kX12_someOf_0 2 rfl) (by decide) rfl ?_
  refine w_cVIW (q := 7) (As := [.int (0 : Int32), .int (6 : Int32)]) (st := []) hx (dc kX12_someOf_0 3 rfl) cf12 (by decide) rfl (cI _ my_X12_number lm_X12_219 (by omega)) vs_X12_number rfl (fun u hu => sX12_number _ _ _ _ _ _ _ hu) (fun e => ite_ne (by unfold mX12_number at e; exact e)) (Nat.zero_le _) rfl (fun v1 h2 => ?_)
  refine j_istore_n (q := 8) (i := 1) (l2 := [(0, vR x.2.2.2 x0)]) hx (dc kX12_someOf_0 4 rfl) rfl (hn 1 (by decide)) [0] rfl ⟨⟨show (0 : Nat) ≠ 1 by decide, Or.inr (vR_cat _ _)⟩, trivial⟩ rfl ?_
  refine j_aload_n (q := 9) hx (dc kX12_someOf_0 5 rfl) rfl 1 rfl rfl ?_
  refine j_aload_n (q := 10) hx (dc kX12_someOf_0 6 rfl) rfl 1 rfl rfl ?_
  refine j_ldcS (a := 12) (q := 12) hx (show (_, _, "of", _) ∈ strs0 by decide +kernel) (dc kX12_someOf_0 7 rfl) rfl ?_
  refine w_cVIR (q := 15) (As := [vR x.2.2.2 22]) (st := [vR x.2.2.2 x0]) hx (dc kX12_someOf_0 8 rfl) cf12 (by decide) rfl (cI _ my_X12_isWord lm_X12_135 (by omega)) vs_X12_isWord rfl (fun u hu => sX12_isWord _ _ _ _ _ _ hu) (fun e => ite_ne (by unfold mX12_isWord at e; exact e)) (sum_le (sum_R sum_nil) (by decide)) rfl (fun v3 => ?_)
  refine w_cVVW (q := 18) (As := [.int v3]) (st := []) hx (dc kX12_someOf_0 9 rfl) cf12 (by decide) rfl (cI _ my_X12_must lm_X12_209 (by omega)) vs_X12_must rfl (fun u hu => sX12_must _ _ _ _ _ _ hu) (fun e => ite_ne (by unfold mX12_must at e; exact e)) (Nat.zero_le _) rfl (fun h6 => ?_)
  refine j_aload_n (q := 19) hx (dc kX12_someOf_0 10 rfl) rfl 1 rfl rfl ?_
  refine j_bipush (q := 21) (v := (40 : Int32)) hx (dc kX12_someOf_0 11 rfl) (by decide) rfl ?_
  refine w_cVIR (q := 24) (As := [.int (40 : Int32)]) (st := []) hx (dc kX12_someOf_0 12 rfl) cf12 (by decide) rfl (cI _ my_X12_isSign lm_X12_195 (by omega)) vs_X12_isSign rfl (fun u hu => sX12_isSign _ _ _ _ _ _ hu) (fun e => ite_ne (by unfold mX12_isSign at e; exact e)) (Nat.zero_le _) rfl (fun v7 => ?_)
  refine j_if_neS (q := 27) (tgt := 32) hx (dc kX12_someOf_0 13 rfl) (by decide) rfl ?_ ?_
  · exact j_sub [1, 0] rfl (hb32 x0 v1 h6)
  · refine j_aload_n (q := 28) hx (dc kX12_someOf_0 14 rfl) rfl 1 rfl rfl ?_
    refine j_iconst (q := 29) (v := (1 : Int32)) hx (dc kX12_someOf_0 15 rfl) (by decide) rfl ?_
    refine w_cVVW (q := 32) (As := [.int (1 : Int32)]) (st := []) hx (dc kX12_someOf_0 16 rfl) cf12 (by decide) rfl (cI _ my_X12_wrong lm_X12_165 (by omega)) vs_X12_wrong rfl (fun u hu => sX12_wrong _ _ _ _ _ _ hu) (fun e => ite_ne (by unfold mX12_wrong at e; exact e)) (Nat.zero_le _) rfl (fun h29 => ?_)
    exact j_sub [1, 0] rfl (hb32 x0 v1 h29)
theorem sg_X12_both : ∀ n : Nat, (∀ (l : Launch) (w : Wd) (x0 : Nat) (h : Hp) (u : Hp), mX12_both n x0 h = some u → M1 l w mi_X12_both (9 + n) [vR w x0] h u (none)) ∧
  (∀ (x0 : Nat) (h : Hp), mX12_both n x0 h ≠ none → (hpS h x0).1 = 13) ∧
  (∀ (l : Launch) (w : Wd) (x0 : Nat) (h : Hp) (u : Hp), mX12_either n x0 h = some u → M1 l w mi_X12_either (9 + n) [vR w x0] h u (none)) ∧
  (∀ (x0 : Nat) (h : Hp), mX12_either n x0 h ≠ none → (hpS h x0).1 = 13) ∧
  (∀ (l : Launch) (w : Wd) (x0 : Nat) (h : Hp) (u : Hp), mX12_one n x0 h = some u → M1 l w mi_X12_one (9 + n) [vR w x0] h u (none)) ∧
  (∀ (x0 : Nat) (h : Hp), mX12_one n x0 h ≠ none → (hpS h x0).1 = 13) ∧
  (∀ (l : Launch) (w : Wd) (x0 : Nat) (h : Hp) (u : Hp), mX12_someOf n x0 h = some u → M1 l w mi_X12_someOf (9 + n) [vR w x0] h u (none)) ∧
  (∀ (x0 : Nat) (h : Hp), mX12_someOf n x0 h ≠ none → (hpS h x0).1 = 13) := by
  intro n
  induction n with
  | zero => exact ⟨fun _  _ _ _ _ e => (by cases e), fun _ _ e => absurd rfl e, fun _  _ _ _ _ e => (by cases e), fun _ _ e => absurd rfl e, fun _  _ _ _ _ e => (by cases e), fun _ _ e => absurd rfl e, fun _  _ _ _ _ e => (by cases e), fun _ _ e => absurd rfl e⟩
  | succ n ih =>
    obtain ⟨hg0, hk0, hg1, hk1, hg2, hk2, hg3, hk3⟩ := ih
    exact ⟨sX12_both_F (9 + n) (by omega) (mg_X12_both n) hg0 hk0 hg1 hk1 hg2 hk2 hg3 hk3, fun x0 h e => ite_ne (by have e2 : mX12_both_F (mg_X12_both n) x0 h ≠ none := e; unfold mX12_both_F at e2; exact e2), sX12_either_F (9 + n) (by omega) (mg_X12_both n) hg0 hk0 hg1 hk1 hg2 hk2 hg3 hk3, fun x0 h e => ite_ne (by have e2 : mX12_either_F (mg_X12_both n) x0 h ≠ none := e; unfold mX12_either_F at e2; exact e2), sX12_one_F (9 + n) (by omega) (mg_X12_both n) hg0 hk0 hg1 hk1 hg2 hk2 hg3 hk3, fun x0 h e => ite_ne (by have e2 : mX12_one_F (mg_X12_both n) x0 h ≠ none := e; unfold mX12_one_F at e2; exact e2), sX12_someOf_F (9 + n) (by omega) (mg_X12_both n) hg0 hk0 hg1 hk1 hg2 hk2 hg3 hk3, fun x0 h e => ite_ne (by have e2 : mX12_someOf_F (mg_X12_both n) x0 h ≠ none := e; unfold mX12_someOf_F at e2; exact e2)⟩
theorem sX12_both (n : Nat) (l : Launch) (w : Wd) (x0 : Nat) (h : Hp) (u : Hp) (hu : mX12_both n x0 h = some u) : M1 l w mi_X12_both (9 + n) [vR w x0] h u (none) := (sg_X12_both n).1 l w x0 h u hu
theorem kX12_both (n : Nat) (x0 : Nat) (h : Hp) (e : mX12_both n x0 h ≠ none) : (hpS h x0).1 = 13 := (sg_X12_both n).2.1 x0 h e
theorem sX12_either (n : Nat) (l : Launch) (w : Wd) (x0 : Nat) (h : Hp) (u : Hp) (hu : mX12_either n x0 h = some u) : M1 l w mi_X12_either (9 + n) [vR w x0] h u (none) := (sg_X12_both n).2.2.1 l w x0 h u hu
theorem kX12_either (n : Nat) (x0 : Nat) (h : Hp) (e : mX12_either n x0 h ≠ none) : (hpS h x0).1 = 13 := (sg_X12_both n).2.2.2.1 x0 h e
theorem sX12_one (n : Nat) (l : Launch) (w : Wd) (x0 : Nat) (h : Hp) (u : Hp) (hu : mX12_one n x0 h = some u) : M1 l w mi_X12_one (9 + n) [vR w x0] h u (none) := (sg_X12_both n).2.2.2.2.1 l w x0 h u hu
theorem kX12_one (n : Nat) (x0 : Nat) (h : Hp) (e : mX12_one n x0 h ≠ none) : (hpS h x0).1 = 13 := (sg_X12_both n).2.2.2.2.2.1 x0 h e
theorem sX12_someOf (n : Nat) (l : Launch) (w : Wd) (x0 : Nat) (h : Hp) (u : Hp) (hu : mX12_someOf n x0 h = some u) : M1 l w mi_X12_someOf (9 + n) [vR w x0] h u (none) := (sg_X12_both n).2.2.2.2.2.2.1 l w x0 h u hu
theorem kX12_someOf (n : Nat) (x0 : Nat) (h : Hp) (e : mX12_someOf n x0 h ≠ none) : (hpS h x0).1 = 13 := (sg_X12_both n).2.2.2.2.2.2.2 x0 h e

set_option maxHeartbeats 4000000 in
set_option maxRecDepth 100000 in
theorem sX12_expr (l : Launch) (w : Wd) (x0 : Nat) (h : Hp) (u : (Int32 × Hp)) (hK : mX12_expr x0 h = some u) : M1 l w mi_X12_expr 51 [vR w x0] h u.2 (some (.int u.1)) := by
  refine M1.of (own := RX12) (T := fun _ r => r = u) hK (by decide +kernel) rfl (by first | (simp only [lg_lenR, lg_lenI, lg_lenL, lg_len0]; decide) | decide) (fun x hx hnl hhf hl hw hret hnm hQ h0e => ⟨?_, rfl⟩)
  subst hw
  subst hl
  have hR : Rt x h u.2 (some (.int u.1)) ((some .int)) := ⟨h0e, hhf, hret, hQ⟩
  have hn : ∀ i, i < 2 → i < x.2.2.1.1.1 := fun i hi => by rw [hnl]; exact hi
  have e0 : lv_args 0 [vR x.2.2.2 x0] = [(0, vR x.2.2.2 x0)] := by simp only [lv_argsR, lv_argsI, lv_argsL, lv_args0]
  rw [e0]
  have hb69 : ∀ (x1 : Int32) (t0 : Nat) (t1 : Int32) (t2 : Int32) (t3 : Int32) (h : Hp), J x 69 [(1, .int x1)] [.int t3, .int t2, .int t1, vR x.2.2.2 t0] h (mX12_expr_b69 x1 t0 t1 t2 t3 h) (fun r => r = u) := by
    intro x1 t0 t1 t2 t3 h
    unfold mX12_expr_b69
    refine j_iadd (q := 70) hx (dc kX12_expr_0 41 rfl) rfl ?_
    refine w_stI (q := 71) hx (dc kX12_expr_0 42 rfl) rfl (fun h17 => ?_)
    refine j_iload_n (q := 72) hx (dc kX12_expr_0 43 rfl) rfl 0 rfl rfl ?_
    exact r_iW hx hR (dc kX12_expr_0 44 rfl)
  unfold mX12_expr
  refine J.ckd fun hck => ?_
  refine j_aload_n (q := 1) hx (dc kX12_expr_0 0 rfl) rfl 0 rfl rfl ?_
  refine w_gR (q := 4) hx (dc kX12_expr_0 1 rfl) ff_X12_1 lk_X12_13 rfl (fun v1 => ?_)
  refine j_bipush (q := 6) (v := (6 : Int32)) hx (dc kX12_expr_0 2 rfl) (by decide) rfl ?_
  refine j_ldI (q := 7) hx (dc kX12_expr_0 3 rfl) rfl (fun v2 => ?_)
  refine j_istore_n (q := 8) (i := 1) (l2 := [(0, vR x.2.2.2 x0)]) hx (dc kX12_expr_0 4 rfl) rfl (hn 1 (by decide)) [0] rfl ⟨⟨show (0 : Nat) ≠ 1 by decide, Or.inr (vR_cat _ _)⟩, trivial⟩ rfl ?_
  refine j_aload_n (q := 9) hx (dc kX12_expr_0 5 rfl) rfl 1 rfl rfl ?_
  refine w_gR (q := 12) hx (dc kX12_expr_0 6 rfl) ff_X12_1 lk_X12_13 rfl (fun v3 => ?_)
  refine j_bipush (q := 14) (v := (84 : Int32)) hx (dc kX12_expr_0 7 rfl) (by decide) rfl ?_
  refine j_iload_n (q := 15) hx (dc kX12_expr_0 8 rfl) rfl 0 rfl rfl ?_
  refine j_iadd (q := 16) hx (dc kX12_expr_0 9 rfl) rfl ?_
  refine j_aload_n (q := 17) hx (dc kX12_expr_0 10 rfl) rfl 1 rfl rfl ?_
  refine w_gR (q := 20) hx (dc kX12_expr_0 11 rfl) ff_X12_1 lk_X12_13 rfl (fun v4 => ?_)
  refine j_bipush (q := 22) (v := (7 : Int32)) hx (dc kX12_expr_0 12 rfl) (by decide) rfl ?_
  refine j_ldI (q := 23) hx (dc kX12_expr_0 13 rfl) rfl (fun v5 => ?_)
  refine w_stI (q := 24) hx (dc kX12_expr_0 14 rfl) rfl (fun h6 => ?_)
  refine j_aload_n (q := 25) hx (dc kX12_expr_0 15 rfl) rfl 1 rfl rfl ?_
  refine j_iconst (q := 26) (v := (0 : Int32)) hx (dc kX12_expr_0 16 rfl) (by decide) rfl ?_
  refine w_sI (q := 29) hx (dc kX12_expr_0 17 rfl) ff_X12_16 rfl lk_X12_186 (Or.inl rfl) rfl (fun h7 => ?_)
  refine j_aload_n (q := 30) hx (dc kX12_expr_0 18 rfl) rfl 1 rfl rfl ?_
  refine w_cVVW (q := 33) (As := []) (st := []) hx (dc kX12_expr_0 19 rfl) cf12 (by decide) rfl (cI _ my_X12_either lm_X12_189 (by decide)) vs_X12_either rfl (fun u hu => sX12_either 40 _ _ _ _ _ hu) (kX12_either 40 _ _) (Nat.zero_le _) rfl (fun h9 => ?_)
  refine j_aload_n (q := 34) hx (dc kX12_expr_0 20 rfl) rfl 1 rfl rfl ?_
  refine w_gR (q := 37) hx (dc kX12_expr_0 21 rfl) ff_X12_1 lk_X12_13 rfl (fun v10 => ?_)
  refine j_bipush (q := 39) (v := (117 : Int32)) hx (dc kX12_expr_0 22 rfl) (by decide) rfl ?_
  refine j_iload_n (q := 40) hx (dc kX12_expr_0 23 rfl) rfl 0 rfl rfl ?_
  refine j_iadd (q := 41) hx (dc kX12_expr_0 24 rfl) rfl ?_
  refine j_aload_n (q := 42) hx (dc kX12_expr_0 25 rfl) rfl 1 rfl rfl ?_
  refine w_gR (q := 45) hx (dc kX12_expr_0 26 rfl) ff_X12_1 lk_X12_13 rfl (fun v11 => ?_)
  refine j_bipush (q := 47) (v := (7 : Int32)) hx (dc kX12_expr_0 27 rfl) (by decide) rfl ?_
  refine j_ldI (q := 48) hx (dc kX12_expr_0 28 rfl) rfl (fun v12 => ?_)
  refine w_stI (q := 49) hx (dc kX12_expr_0 29 rfl) rfl (fun h13 => ?_)
  refine j_aload_n (q := 50) hx (dc kX12_expr_0 30 rfl) rfl 1 rfl rfl ?_
  refine w_gR (q := 53) hx (dc kX12_expr_0 31 rfl) ff_X12_1 lk_X12_13 rfl (fun v14 => ?_)
  refine j_bipush (q := 55) (v := (6 : Int32)) hx (dc kX12_expr_0 32 rfl) (by decide) rfl ?_
  refine j_dup2_11 (q := 56) hx (dc kX12_expr_0 33 rfl) rfl (vR_cat _ _) rfl ?_
  refine j_ldI (q := 57) hx (dc kX12_expr_0 34 rfl) rfl (fun v15 => ?_)
  refine j_aload_n (q := 58) hx (dc kX12_expr_0 35 rfl) rfl 1 rfl rfl ?_
  refine w_gI (q := 61) hx (dc kX12_expr_0 36 rfl) ff_X12_17 lk_X12_126 rfl (fun v16 => ?_)
  refine j_if_neS (q := 64) (tgt := 68) hx (dc kX12_expr_0 37 rfl) (by decide) rfl ?_ ?_
  · refine j_iconst (q := 69) (v := (0 : Int32)) hx (dc kX12_expr_0 40 rfl) (by decide) rfl ?_
    exact j_sub [0] rfl (hb69 v2 v14 (6 : Int32) v15 (0 : Int32) h13)
  · refine j_iconst (q := 65) (v := (1 : Int32)) hx (dc kX12_expr_0 38 rfl) (by decide) rfl ?_
    refine j_goto (q := 69) hx (dc kX12_expr_0 39 rfl) (by decide) ?_
    exact j_sub [0] rfl (hb69 v2 v14 (6 : Int32) v15 (1 : Int32) h13)

set_option maxHeartbeats 4000000 in
set_option maxRecDepth 100000 in
theorem sX12_readFact (l : Launch) (w : Wd) (x0 : Nat) (h : Hp) (u : Hp) (hK : mX12_readFact x0 h = some u) : M1 l w mi_X12_readFact 9 [vR w x0] h u (none) := by
  refine M1.of (own := RX12) (T := fun _ r => r = u) hK (by decide +kernel) rfl (by first | (simp only [lg_lenR, lg_lenI, lg_lenL, lg_len0]; decide) | decide) (fun x hx hnl hhf hl hw hret hnm hQ h0e => ⟨?_, rfl⟩)
  subst hw
  subst hl
  have hR : Rt x h u (none) (none) := ⟨h0e, hhf, hret, hQ⟩
  have hn : ∀ i, i < 3 → i < x.2.2.1.1.1 := fun i hi => by rw [hnl]; exact hi
  have e0 : lv_args 0 [vR x.2.2.2 x0] = [(0, vR x.2.2.2 x0)] := by simp only [lv_argsR, lv_argsI, lv_argsL, lv_args0]
  rw [e0]
  have hb38 : ∀ (x0 : Nat) (x1 : Int32) (t0 : Int32) (h : Hp), J x 38 [(0, vR x.2.2.2 x0), (1, .int x1)] [.int t0] h (mX12_readFact_b38 x0 x1 t0 h) (fun r => r = u) := by
    intro x0 x1 t0 h
    unfold mX12_readFact_b38
    refine j_istore_n (q := 39) (i := 2) (l2 := [(0, vR x.2.2.2 x0), (1, .int x1)]) hx (dc kX12_readFact_0 22 rfl) rfl (hn 2 (by decide)) [0, 1] rfl ⟨⟨show (0 : Nat) ≠ 2 by decide, Or.inl (show (0 : Nat) + 1 ≠ 2 by decide)⟩, ⟨⟨show (1 : Nat) ≠ 2 by decide, Or.inr rfl⟩, trivial⟩⟩ rfl ?_
    refine j_aload_n (q := 40) hx (dc kX12_readFact_0 23 rfl) rfl 1 rfl rfl ?_
    refine j_aload_n (q := 41) hx (dc kX12_readFact_0 24 rfl) rfl 1 rfl rfl ?_
    refine j_bipush (q := 43) (v := (59 : Int32)) hx (dc kX12_readFact_0 25 rfl) (by decide) rfl ?_
    refine w_cVIR (q := 46) (As := [.int (59 : Int32)]) (st := [vR x.2.2.2 x0]) hx (dc kX12_readFact_0 26 rfl) cf12 (by decide) rfl (cI _ my_X12_isSign lm_X12_195 (by decide)) vs_X12_isSign rfl (fun u hu => sX12_isSign _ _ _ _ _ _ hu) (fun e => ite_ne (by unfold mX12_isSign at e; exact e)) (sum_le (sum_R sum_nil) (by decide)) rfl (fun v8 => ?_)
    refine w_cVVW (q := 49) (As := [.int v8]) (st := []) hx (dc kX12_readFact_0 27 rfl) cf12 (by decide) rfl (cI _ my_X12_must lm_X12_209 (by decide)) vs_X12_must rfl (fun u hu => sX12_must _ _ _ _ _ _ hu) (fun e => ite_ne (by unfold mX12_must at e; exact e)) (Nat.zero_le _) rfl (fun h11 => ?_)
    refine j_aload_n (q := 50) hx (dc kX12_readFact_0 28 rfl) rfl 1 rfl rfl ?_
    refine w_gI (q := 53) hx (dc kX12_readFact_0 29 rfl) ff_X12_17 lk_X12_126 rfl (fun v12 => ?_)
    refine j_if_neS (q := 56) (tgt := 76) hx (dc kX12_readFact_0 30 rfl) (by decide) rfl ?_ ?_
    · exact r_vW hx hR (dc kX12_readFact_0 46 rfl)
    · refine j_aload_n (q := 57) hx (dc kX12_readFact_0 31 rfl) rfl 1 rfl rfl ?_
      refine w_gR (q := 60) hx (dc kX12_readFact_0 32 rfl) ff_X12_1 lk_X12_13 rfl (fun v13 => ?_)
      refine j_bipush (q := 62) (v := (8 : Int32)) hx (dc kX12_readFact_0 33 rfl) (by decide) rfl ?_
      refine j_iload_n (q := 63) hx (dc kX12_readFact_0 34 rfl) rfl 2 rfl rfl ?_
      refine j_iadd (q := 64) hx (dc kX12_readFact_0 35 rfl) rfl ?_
      refine j_iload_n (q := 65) hx (dc kX12_readFact_0 36 rfl) rfl 0 rfl rfl ?_
      refine w_stI (q := 66) hx (dc kX12_readFact_0 37 rfl) rfl (fun h14 => ?_)
      refine j_aload_n (q := 67) hx (dc kX12_readFact_0 38 rfl) rfl 1 rfl rfl ?_
      refine w_gR (q := 70) hx (dc kX12_readFact_0 39 rfl) ff_X12_1 lk_X12_13 rfl (fun v15 => ?_)
      refine j_iconst (q := 71) (v := (1 : Int32)) hx (dc kX12_readFact_0 40 rfl) (by decide) rfl ?_
      refine j_dup2_11 (q := 72) hx (dc kX12_readFact_0 41 rfl) rfl (vR_cat _ _) rfl ?_
      refine j_ldI (q := 73) hx (dc kX12_readFact_0 42 rfl) rfl (fun v16 => ?_)
      refine j_iconst (q := 74) (v := (1 : Int32)) hx (dc kX12_readFact_0 43 rfl) (by decide) rfl ?_
      refine j_iadd (q := 75) hx (dc kX12_readFact_0 44 rfl) rfl ?_
      refine w_stI (q := 76) hx (dc kX12_readFact_0 45 rfl) rfl (fun h17 => ?_)
      exact r_vW hx hR (dc kX12_readFact_0 46 rfl)
  unfold mX12_readFact
  refine J.ckd fun hck => ?_
  refine j_aload_n (q := 1) hx (dc kX12_readFact_0 0 rfl) rfl 0 rfl rfl ?_
  refine w_gR (q := 4) hx (dc kX12_readFact_0 1 rfl) ff_X12_1 lk_X12_13 rfl (fun v1 => ?_)
  refine j_iconst (q := 5) (v := (1 : Int32)) hx (dc kX12_readFact_0 2 rfl) (by decide) rfl ?_
  refine j_ldI (q := 6) hx (dc kX12_readFact_0 3 rfl) rfl (fun v2 => ?_)
  refine j_istore_n (q := 7) (i := 1) (l2 := [(0, vR x.2.2.2 x0)]) hx (dc kX12_readFact_0 4 rfl) rfl (hn 1 (by decide)) [0] rfl ⟨⟨show (0 : Nat) ≠ 1 by decide, Or.inr (vR_cat _ _)⟩, trivial⟩ rfl ?_
  refine j_aload_n (q := 8) hx (dc kX12_readFact_0 5 rfl) rfl 1 rfl rfl ?_
  refine j_iload_n (q := 9) hx (dc kX12_readFact_0 6 rfl) rfl 0 rfl rfl ?_
  refine j_bipush (q := 11) (v := (8 : Int32)) hx (dc kX12_readFact_0 7 rfl) (by decide) rfl ?_
  refine w_cVVW (q := 14) (As := [.int v2, .int (8 : Int32)]) (st := []) hx (dc kX12_readFact_0 8 rfl) cf12 (by decide) rfl (cI _ my_X12_room lm_X12_226 (by decide)) vs_X12_room rfl (fun u hu => sX12_room _ _ _ _ _ _ _ hu) (fun e => ite_ne (by unfold mX12_room at e; exact e)) (Nat.zero_le _) rfl (fun h4 => ?_)
  refine j_aload_n (q := 15) hx (dc kX12_readFact_0 9 rfl) rfl 1 rfl rfl ?_
  refine j_iload_n (q := 16) hx (dc kX12_readFact_0 10 rfl) rfl 0 rfl rfl ?_
  refine w_cVVW (q := 19) (As := [.int v2]) (st := []) hx (dc kX12_readFact_0 11 rfl) cf12 (by decide) rfl (cI _ my_X12_newName lm_X12_229 (by decide)) vs_X12_newName rfl (fun u hu => sX12_newName _ _ _ _ _ _ hu) (fun e => ite_ne (by unfold mX12_newName at e; exact e)) (Nat.zero_le _) rfl (fun h6 => ?_)
  refine j_aload_n (q := 20) hx (dc kX12_readFact_0 12 rfl) rfl 1 rfl rfl ?_
  refine w_gI (q := 23) hx (dc kX12_readFact_0 13 rfl) ff_X12_14 lk_X12_109 rfl (fun v7 => ?_)
  refine j_iconst (q := 24) (v := (3 : Int32)) hx (dc kX12_readFact_0 14 rfl) (by decide) rfl ?_
  refine j_icmp_neS (q := 27) (tgt := 37) hx (dc kX12_readFact_0 15 rfl) (by decide) rfl ?_ ?_
  · refine j_iconst (q := 38) (v := (5 : Int32)) hx (dc kX12_readFact_0 21 rfl) (by decide) rfl ?_
    exact j_sub [1, 0] rfl (hb38 x0 v2 (5 : Int32) h6)
  · refine j_aload_n (q := 28) hx (dc kX12_readFact_0 16 rfl) rfl 1 rfl rfl ?_
    refine j_iconst (q := 29) (v := (1 : Int32)) hx (dc kX12_readFact_0 17 rfl) (by decide) rfl ?_
    refine j_bipush (q := 31) (v := (9 : Int32)) hx (dc kX12_readFact_0 18 rfl) (by decide) rfl ?_
    refine w_cVIW (q := 34) (As := [.int (1 : Int32), .int (9 : Int32)]) (st := []) hx (dc kX12_readFact_0 19 rfl) cf12 (by decide) rfl (cI _ my_X12_number lm_X12_219 (by decide)) vs_X12_number rfl (fun u hu => sX12_number _ _ _ _ _ _ _ hu) (fun e => ite_ne (by unfold mX12_number at e; exact e)) (Nat.zero_le _) rfl (fun v18 h19 => ?_)
    refine j_goto (q := 38) hx (dc kX12_readFact_0 20 rfl) (by decide) ?_
    exact j_sub [1, 0] rfl (hb38 x0 v2 v18 h19)

