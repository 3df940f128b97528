set_option maxHeartbeats 4000000 in
set_option maxRecDepth 100000 in
theorem sX11_wonIn (l : Launch) (w : Wd) (x0 : Nat) (x1 : Int32) (x2 : Int32) (h : Hp) (u : Int32) (hK : mX11_wonIn x0 x1 x2 h = some u) : M1 l w mi_X11_wonIn 3 [vR w x0, .int x1, .int x2] h h (some (.int u)) := by
  refine M1.of (own := RX11) (T := fun _ r => r = u) hK (by decide +kernel) rfl (by first | (simp only [lg_lenR, lg_lenI, lg_lenL, lg_len0]; decide) | decide) (fun x hx hnl hhf hl hw hret hnm hQ h0e => ⟨?_, rfl⟩)
  subst hw
  subst hl
  have hR : Rt x h h (some (.int u)) ((some .int)) := ⟨h0e, hhf, hret, hQ⟩
  have hn : ∀ i, i < 5 → i < x.2.2.1.1.1 := fun i hi => by rw [hnl]; exact hi
  have e0 : lv_args 0 [vR x.2.2.2 x0, .int x1, .int x2] = [(0, vR x.2.2.2 x0), (1, .int x1), (2, .int x2)] := by simp only [lv_argsR, lv_argsI, lv_argsL, lv_args0]
  rw [e0]
  have hb5 : ∀ (x0 : Nat) (x1 : Int32) (x2 : Int32) (x3 : Int32) (x4 : Int32), J x 5 [(0, vR x.2.2.2 x0), (1, .int x1), (2, .int x2), (3, .int x3), (4, .int x4)] [] h (mX11_wonIn_l5 x0 x1 x2 x3 x4 h) (fun r => r = u) := by
    intro x0 x1 x2 x3 x4
    have hB : ∀ (x3 : Int32) (x4 : Int32), J x 5 [(0, vR x.2.2.2 x0), (1, .int x1), (2, .int x2), (3, .int x3), (4, .int x4)] [] h (mX11_wonIn_l5f x0 x1 x2 h x3 x4) (TLo (S := (Int32 × Int32)) x 5 (fun s => [(0, vR x.2.2.2 x0), (1, .int x1), (2, .int x2), (3, .int s.1), (4, .int s.2)]) [] (fun s => h) (fun r => r = u)) := by
      intro x3 x4
      have hb53 : ∀ (x0 : Nat) (x1 : Int32) (x2 : Int32) (x3 : Int32) (x4 : Int32), J x 53 [(0, vR x.2.2.2 x0), (1, .int x1), (2, .int x2), (3, .int x3), (4, .int x4)] [] h (mX11_wonIn_b53 x0 x1 x2 x3 x4 h) (TLo (S := (Int32 × Int32)) x 5 (fun s => [(0, vR x.2.2.2 x0), (1, .int x1), (2, .int x2), (3, .int s.1), (4, .int s.2)]) [] (fun s => h) (fun r => r = u)) := by
        intro x0 x1 x2 x3 x4
        unfold mX11_wonIn_b53
        refine j_iinc (q := 56) (l2 := [(0, vR x.2.2.2 x0), (1, .int x1), (2, .int x2), (3, .int x3)]) hx (dc kX11_wonIn_0 28 rfl) 4 rfl (v := (1 : Int32)) (by decide) (hn 4 (by decide)) [0, 1, 2, 3] rfl ⟨⟨show (0 : Nat) ≠ 4 by decide, Or.inl (show (0 : Nat) + 1 ≠ 4 by decide)⟩, ⟨⟨show (1 : Nat) ≠ 4 by decide, Or.inl (show (1 : Nat) + 1 ≠ 4 by decide)⟩, ⟨⟨show (2 : Nat) ≠ 4 by decide, Or.inl (show (2 : Nat) + 1 ≠ 4 by decide)⟩, ⟨⟨show (3 : Nat) ≠ 4 by decide, Or.inr rfl⟩, trivial⟩⟩⟩⟩ rfl ?_
        refine j_goto (q := 5) hx (dc kX11_wonIn_0 29 rfl) (by decide) ?_
        exact j_back [1, 2, 3, 4, 0] (x3, (x4 + (1 : Int32))) rfl rfl
      unfold mX11_wonIn_l5f
      refine j_iload (q := 7) hx (dc kX11_wonIn_0 4 rfl) 4 rfl rfl ?_
      refine j_aload_n (q := 8) hx (dc kX11_wonIn_0 5 rfl) rfl 0 rfl rfl ?_
      refine w_gR (q := 11) hx (dc kX11_wonIn_0 6 rfl) ff_X11_5 lk_X11_43 rfl (fun v1 => ?_)
      refine w_gI (q := 14) hx (dc kX11_wonIn_0 7 rfl) ff_X5_2 lk_X11_264 rfl (fun v2 => ?_)
      refine j_icmp_geS (q := 17) (tgt := 59) hx (dc kX11_wonIn_0 8 rfl) (by decide) rfl ?_ ?_
      · refine j_exit ?_
        refine j_iload_n (q := 60) hx (dc kX11_wonIn_0 30 rfl) rfl 3 rfl rfl ?_
        exact r_iR hx hR (dc kX11_wonIn_0 31 rfl)
      · refine j_iload_n (q := 18) hx (dc kX11_wonIn_0 9 rfl) rfl 2 rfl rfl ?_
        refine j_iload (q := 20) hx (dc kX11_wonIn_0 10 rfl) 4 rfl rfl ?_
        refine w_cSIR (q := 23) (As := [.int x2, .int x4]) (st := []) hx (dc kX11_wonIn_0 11 rfl) (cI _ my_X11_has lm_X11_164 (by decide)) st_X11_has rfl (fun u hu => sX11_has _ _ _ _ _ _ hu) (Nat.zero_le _) rfl (fun v3 => ?_)
        refine j_if_eq (q := 26) (tgt := 53) hx (dc kX11_wonIn_0 12 rfl) (by decide) Iff.rfl rfl ?_ ?_
        · exact hb53 x0 x1 x2 x3 x4
        · refine j_aload_n (q := 27) hx (dc kX11_wonIn_0 13 rfl) rfl 0 rfl rfl ?_
          refine w_gR (q := 30) hx (dc kX11_wonIn_0 14 rfl) ff_X11_3 lk_X11_33 rfl (fun v5 => ?_)
          refine j_aload_n (q := 31) hx (dc kX11_wonIn_0 15 rfl) rfl 0 rfl rfl ?_
          refine j_iload (q := 33) hx (dc kX11_wonIn_0 16 rfl) 4 rfl rfl ?_
          refine w_cVIR (q := 36) (As := [.int x4]) (st := [vR x.2.2.2 v5]) hx (dc kX11_wonIn_0 17 rfl) cf11 (by decide) rfl (cI _ my_X11_kind lm_X11_192 (by decide)) vs_X11_kind rfl (fun u hu => sX11_kind _ _ _ _ _ _ hu) (fun e => ite_ne (by unfold mX11_kind at e; exact e)) (sum_le (sum_R sum_nil) (by decide)) rfl (fun v6 => ?_)
          refine w_cVRR (q := 39) (As := [.int v6]) (st := []) hx (dc kX11_wonIn_0 18 rfl) cf1 (by decide) rfl (cI _ my_X1_wonBy lm_X11_304 (by decide)) vs_X1_wonBy rfl (fun u hu => sX1_wonBy _ _ _ _ _ _ hu) (fun e => ite_ne (by unfold mX1_wonBy at e; exact e)) (Nat.zero_le _) rfl (fun v8 => ?_)
          refine j_iload_n (q := 40) hx (dc kX11_wonIn_0 19 rfl) rfl 1 rfl rfl ?_
          refine w_cVIR (q := 43) (As := [.int x1]) (st := []) hx (dc kX11_wonIn_0 20 rfl) cf10 (by decide) rfl (cI _ my_X10_holds lm_X11_325 (by decide)) vs_X10_holds rfl (fun u hu => sX10_holds _ _ _ _ _ _ hu) (fun e => ite_ne (by unfold mX10_holds at e; exact e)) (Nat.zero_le _) rfl (fun v10 => ?_)
          refine j_if_eq (q := 46) (tgt := 53) hx (dc kX11_wonIn_0 21 rfl) (by decide) Iff.rfl rfl ?_ ?_
          · exact hb53 x0 x1 x2 x3 x4
          · refine j_iload_n (q := 47) hx (dc kX11_wonIn_0 22 rfl) rfl 3 rfl rfl ?_
            refine j_iconst (q := 48) (v := (1 : Int32)) hx (dc kX11_wonIn_0 23 rfl) (by decide) rfl ?_
            refine j_iload (q := 50) hx (dc kX11_wonIn_0 24 rfl) 4 rfl rfl ?_
            refine j_ishl (q := 51) hx (dc kX11_wonIn_0 25 rfl) rfl ?_
            refine j_ior (q := 52) hx (dc kX11_wonIn_0 26 rfl) rfl ?_
            refine j_istore_n (q := 53) (i := 3) (l2 := [(0, vR x.2.2.2 x0), (1, .int x1), (2, .int x2), (4, .int x4)]) hx (dc kX11_wonIn_0 27 rfl) rfl (hn 3 (by decide)) [0, 1, 2, 4] rfl ⟨⟨show (0 : Nat) ≠ 3 by decide, Or.inl (show (0 : Nat) + 1 ≠ 3 by decide)⟩, ⟨⟨show (1 : Nat) ≠ 3 by decide, Or.inl (show (1 : Nat) + 1 ≠ 3 by decide)⟩, ⟨⟨show (2 : Nat) ≠ 3 by decide, Or.inr rfl⟩, ⟨⟨show (4 : Nat) ≠ 3 by decide, Or.inl (show (4 : Nat) + 1 ≠ 3 by decide)⟩, trivial⟩⟩⟩⟩ rfl ?_
            exact j_sub [1, 2, 3, 0, 4] rfl (hb53 x0 x1 x2 (x3 ||| ((1 : Int32) <<< (x4 &&& 31))) x4)
    exact j_loop (S := (Int32 × Int32)) (lvf := fun s => [(0, vR x.2.2.2 x0), (1, .int x1), (2, .int x2), (3, .int s.1), (4, .int s.2)]) (hpf := fun s => h) (f := (fun s : (Int32 × Int32) => mX11_wonIn_l5f x0 x1 x2 h s.1 s.2)) (fun s => hB s.1 s.2) (x3, x4)
  unfold mX11_wonIn
  refine J.ckd fun hck => ?_
  refine j_iconst (q := 1) (v := (0 : Int32)) hx (dc kX11_wonIn_0 0 rfl) (by decide) rfl ?_
  refine j_istore_n (q := 2) (i := 3) (l2 := [(0, vR x.2.2.2 x0), (1, .int x1), (2, .int x2)]) hx (dc kX11_wonIn_0 1 rfl) rfl (hn 3 (by decide)) [0, 1, 2] rfl ⟨⟨show (0 : Nat) ≠ 3 by decide, Or.inl (show (0 : Nat) + 1 ≠ 3 by decide)⟩, ⟨⟨show (1 : Nat) ≠ 3 by decide, Or.inl (show (1 : Nat) + 1 ≠ 3 by decide)⟩, ⟨⟨show (2 : Nat) ≠ 3 by decide, Or.inr rfl⟩, trivial⟩⟩⟩ rfl ?_
  refine j_iconst (q := 3) (v := (0 : Int32)) hx (dc kX11_wonIn_0 2 rfl) (by decide) rfl ?_
  refine j_istore (q := 5) (i := 4) (l2 := [(3, .int (0 : Int32)), (0, vR x.2.2.2 x0), (1, .int x1), (2, .int x2)]) hx (dc kX11_wonIn_0 3 rfl) (hn 4 (by decide)) [0, 1, 2, 3] rfl ⟨⟨show (3 : Nat) ≠ 4 by decide, Or.inr rfl⟩, ⟨⟨show (0 : Nat) ≠ 4 by decide, Or.inl (show (0 : Nat) + 1 ≠ 4 by decide)⟩, ⟨⟨show (1 : Nat) ≠ 4 by decide, Or.inl (show (1 : Nat) + 1 ≠ 4 by decide)⟩, ⟨⟨show (2 : Nat) ≠ 4 by decide, Or.inl (show (2 : Nat) + 1 ≠ 4 by decide)⟩, trivial⟩⟩⟩⟩ rfl ?_
  exact j_sub [2, 3, 4, 1, 0] rfl (hb5 x0 x1 x2 (0 : Int32) (0 : Int32))

set_option maxHeartbeats 4000000 in
set_option maxRecDepth 100000 in
theorem sX11_survey (l : Launch) (w : Wd) (x0 : Nat) (h : Hp) (u : Hp) (hK : mX11_survey x0 h = some u) : M1 l w mi_X11_survey 7 [vR w x0] h u (none) := by
  refine M1.of (own := RX11) (T := fun _ r => r = u) hK (by decide +kernel) rfl (by first | (simp only [lg_lenR, lg_lenI, lg_lenL, lg_len0]; decide) | decide) (fun x hx hnl hhf hl hw hret hnm hQ h0e => ⟨?_, rfl⟩)
  subst hw
  subst hl
  have hR : Rt x h u (none) (none) := ⟨h0e, hhf, hret, hQ⟩
  have hn : ∀ i, i < 3 → i < x.2.2.1.1.1 := fun i hi => by rw [hnl]; exact hi
  have e0 : lv_args 0 [vR x.2.2.2 x0] = [(0, vR x.2.2.2 x0)] := by simp only [lv_argsR, lv_argsI, lv_argsL, lv_args0]
  rw [e0]
  have hb18 : ∀ (x0 : Nat) (x1 : Int32) (x2 : Int32) (h : Hp), J x 18 [(0, vR x.2.2.2 x0), (1, .int x1), (2, .int x2)] [] h (mX11_survey_l18 x0 x1 x2 h) (fun r => r = u) := by
    intro x0 x1 x2 h
    have hB : ∀ (x2 : Int32) (h : Hp), J x 18 [(0, vR x.2.2.2 x0), (1, .int x1), (2, .int x2)] [] h (mX11_survey_l18f x0 x1 x2 h) (TLo (S := (Int32 × Hp)) x 18 (fun s => [(0, vR x.2.2.2 x0), (1, .int x1), (2, .int s.1)]) [] (fun s => s.2) (fun r => r = u)) := by
      intro x2 h
      have hb61 : ∀ (x0 : Nat) (x1 : Int32) (x2 : Int32) (h : Hp), J x 61 [(0, vR x.2.2.2 x0), (1, .int x1), (2, .int x2)] [] h (mX11_survey_b61 x0 x1 x2 h) (TLo (S := (Int32 × Hp)) x 18 (fun s => [(0, vR x.2.2.2 x0), (1, .int x1), (2, .int s.1)]) [] (fun s => s.2) (fun r => r = u)) := by
        intro x0 x1 x2 h
        unfold mX11_survey_b61
        refine j_iinc (q := 64) (l2 := [(0, vR x.2.2.2 x0), (1, .int x1)]) hx (dc kX11_survey_0 31 rfl) 2 rfl (v := (1 : Int32)) (by decide) (hn 2 (by decide)) [0, 1] rfl ⟨⟨show (0 : Nat) ≠ 2 by decide, Or.inl (show (0 : Nat) + 1 ≠ 2 by decide)⟩, ⟨⟨show (1 : Nat) ≠ 2 by decide, Or.inr rfl⟩, trivial⟩⟩ rfl ?_
        refine j_goto (q := 18) hx (dc kX11_survey_0 32 rfl) (by decide) ?_
        exact j_back [1, 2, 0] ((x2 + (1 : Int32)), h) rfl rfl
      unfold mX11_survey_l18f
      refine j_iload_n (q := 19) hx (dc kX11_survey_0 10 rfl) rfl 2 rfl rfl ?_
      refine j_sipush (q := 22) (v := (256 : Int32)) hx (dc kX11_survey_0 11 rfl) (by decide) rfl ?_
      refine j_icmp_geS (q := 25) (tgt := 67) hx (dc kX11_survey_0 12 rfl) (by decide) rfl ?_ ?_
      · refine j_exit ?_
        exact r_vW hx hR (dc kX11_survey_0 33 rfl)
      · refine j_aload_n (q := 26) hx (dc kX11_survey_0 13 rfl) rfl 0 rfl rfl ?_
        refine w_gR (q := 29) hx (dc kX11_survey_0 14 rfl) ff_X11_9 lk_X11_69 rfl (fun v8 => ?_)
        refine j_iload_n (q := 30) hx (dc kX11_survey_0 15 rfl) rfl 2 rfl rfl ?_
        refine w_cVIR (q := 33) (As := [.int x2]) (st := []) hx (dc kX11_survey_0 16 rfl) cf10 (by decide) rfl (cI _ my_X10_holds lm_X11_325 (by decide)) vs_X10_holds rfl (fun u hu => sX10_holds _ _ _ _ _ _ hu) (fun e => ite_ne (by unfold mX10_holds at e; exact e)) (Nat.zero_le _) rfl (fun v9 => ?_)
        refine j_if_eq (q := 36) (tgt := 61) hx (dc kX11_survey_0 17 rfl) (by decide) Iff.rfl rfl ?_ ?_
        · exact hb61 x0 x1 x2 h
        · refine j_aload_n (q := 37) hx (dc kX11_survey_0 18 rfl) rfl 0 rfl rfl ?_
          refine w_gR (q := 40) hx (dc kX11_survey_0 19 rfl) ff_X11_14 lk_X11_96 rfl (fun v11 => ?_)
          refine j_aload_n (q := 41) hx (dc kX11_survey_0 20 rfl) rfl 0 rfl rfl ?_
          refine j_iload_n (q := 42) hx (dc kX11_survey_0 21 rfl) rfl 2 rfl rfl ?_
          refine j_iload_n (q := 43) hx (dc kX11_survey_0 22 rfl) rfl 1 rfl rfl ?_
          refine w_cVIR (q := 46) (As := [.int x2, .int x1]) (st := [vR x.2.2.2 v11]) hx (dc kX11_survey_0 23 rfl) cf11 (by decide) rfl (cI _ my_X11_wonIn lm_X11_484 (by decide)) vs_X11_wonIn rfl (fun u hu => sX11_wonIn _ _ _ _ _ _ _ hu) (fun e => ite_ne (by unfold mX11_wonIn at e; exact e)) (sum_le (sum_R sum_nil) (by decide)) rfl (fun v12 => ?_)
          refine j_iload_n (q := 47) hx (dc kX11_survey_0 24 rfl) rfl 2 rfl rfl ?_
          refine j_aload_n (q := 48) hx (dc kX11_survey_0 25 rfl) rfl 0 rfl rfl ?_
          refine w_gR (q := 51) hx (dc kX11_survey_0 26 rfl) ff_X11_3 lk_X11_33 rfl (fun v14 => ?_)
          refine w_gR (q := 54) hx (dc kX11_survey_0 27 rfl) ff_X1_16 lk_X11_487 rfl (fun v15 => ?_)
          refine j_iload_n (q := 55) hx (dc kX11_survey_0 28 rfl) rfl 2 rfl rfl ?_
          refine w_cSIR (q := 58) (As := [vR x.2.2.2 v15, .int x2]) (st := [.int x2, .int v12, vR x.2.2.2 v11]) hx (dc kX11_survey_0 29 rfl) (cI _ my_X11_at lm_X11_152 (by decide)) st_X11_at rfl (fun u hu => sX11_at _ _ _ _ _ _ hu) (sum_le (sum_I (sum_I (sum_R sum_nil))) (by decide)) rfl (fun v16 => ?_)
          refine w_cVVW (q := 61) (As := [.int v12, .int x2, .int v16]) (st := []) hx (dc kX11_survey_0 30 rfl) cf6 (by decide) rfl (cI _ my_X6_enter lm_X11_489 (by decide)) vs_X6_enter rfl (fun u hu => sX6_enter _ _ _ _ _ _ _ _ hu) (fun e => ite_ne (by unfold mX6_enter at e; exact e)) (Nat.zero_le _) rfl (fun h19 => ?_)
          exact hb61 x0 x1 x2 h19
    exact j_loop (S := (Int32 × Hp)) (lvf := fun s => [(0, vR x.2.2.2 x0), (1, .int x1), (2, .int s.1)]) (hpf := fun s => s.2) (f := (fun s : (Int32 × Hp) => mX11_survey_l18f x0 x1 s.1 s.2)) (fun s => hB s.1 s.2) (x2, h)
  unfold mX11_survey
  refine J.ckd fun hck => ?_
  refine j_aload_n (q := 1) hx (dc kX11_survey_0 0 rfl) rfl 0 rfl rfl ?_
  refine w_cVVW (q := 4) (As := []) (st := []) hx (dc kX11_survey_0 1 rfl) cf11 (by decide) rfl (cI _ my_X11_remember lm_X11_204 (by decide)) vs_X11_remember rfl (fun u hu => sX11_remember _ _ _ _ _ hu) (fun e => ite_ne (by unfold mX11_remember at e; exact e)) (Nat.zero_le _) rfl (fun h2 => ?_)
  refine j_aload_n (q := 5) hx (dc kX11_survey_0 2 rfl) rfl 0 rfl rfl ?_
  refine w_cVIW (q := 8) (As := []) (st := []) hx (dc kX11_survey_0 3 rfl) cf11 (by decide) rfl (cI _ my_X11_standing lm_X11_413 (by decide)) vs_X11_standing rfl (fun u hu => sX11_standing _ _ _ _ _ hu) (fun e => ite_ne (by unfold mX11_standing at e; exact e)) (Nat.zero_le _) rfl (fun v3 h4 => ?_)
  refine j_istore_n (q := 9) (i := 1) (l2 := [(0, vR x.2.2.2 x0)]) hx (dc kX11_survey_0 4 rfl) rfl (hn 1 (by decide)) [0] rfl ⟨⟨show (0 : Nat) ≠ 1 by decide, Or.inr (vR_cat _ _)⟩, trivial⟩ rfl ?_
  refine j_aload_n (q := 10) hx (dc kX11_survey_0 5 rfl) rfl 1 rfl rfl ?_
  refine w_gR (q := 13) hx (dc kX11_survey_0 6 rfl) ff_X11_14 lk_X11_96 rfl (fun v5 => ?_)
  refine w_cVVW (q := 16) (As := []) (st := []) hx (dc kX11_survey_0 7 rfl) cf6 (by decide) rfl (cI _ my_X6_clear lm_X11_483 (by decide)) vs_X6_clear rfl (fun u hu => sX6_clear _ _ _ _ _ hu) (fun e => ite_ne (by unfold mX6_clear at e; exact e)) (Nat.zero_le _) rfl (fun h7 => ?_)
  refine j_iconst (q := 17) (v := (0 : Int32)) hx (dc kX11_survey_0 8 rfl) (by decide) rfl ?_
  refine j_istore_n (q := 18) (i := 2) (l2 := [(1, .int v3), (0, vR x.2.2.2 x0)]) hx (dc kX11_survey_0 9 rfl) rfl (hn 2 (by decide)) [0, 1] rfl ⟨⟨show (1 : Nat) ≠ 2 by decide, Or.inr rfl⟩, ⟨⟨show (0 : Nat) ≠ 2 by decide, Or.inl (show (0 : Nat) + 1 ≠ 2 by decide)⟩, trivial⟩⟩ rfl ?_
  exact j_sub [2, 1, 0] rfl (hb18 x0 v3 (0 : Int32) h7)

set_option maxHeartbeats 4000000 in
set_option maxRecDepth 100000 in
theorem sX11_awardOf (l : Launch) (w : Wd) (x0 : Nat) (x1 : Int32) (h : Hp) (u : Int32) (hK : mX11_awardOf x0 x1 h = some u) : M1 l w mi_X11_awardOf 3 [vR w x0, .int x1] h h (some (.int u)) := by
  refine M1.of (own := RX11) (T := fun _ r => r = u) hK (by decide +kernel) rfl (by first | (simp only [lg_lenR, lg_lenI, lg_lenL, lg_len0]; decide) | decide) (fun x hx hnl hhf hl hw hret hnm hQ h0e => ⟨?_, rfl⟩)
  subst hw
  subst hl
  have hR : Rt x h h (some (.int u)) ((some .int)) := ⟨h0e, hhf, hret, hQ⟩
  have hn : ∀ i, i < 6 → i < x.2.2.1.1.1 := fun i hi => by rw [hnl]; exact hi
  have e0 : lv_args 0 [vR x.2.2.2 x0, .int x1] = [(0, vR x.2.2.2 x0), (1, .int x1)] := by simp only [lv_argsR, lv_argsI, lv_argsL, lv_args0]
  rw [e0]
  have hb4 : ∀ (x0 : Nat) (x1 : Int32) (x2 : Int32) (x3 : Int32), J x 4 [(0, vR x.2.2.2 x0), (1, .int x1), (2, .int x2), (3, .int x3)] [] h (mX11_awardOf_l4 x0 x1 x2 x3 h) (fun r => r = u) := by
    intro x0 x1 x2 x3
    have hB : ∀ (x2 : Int32) (x3 : Int32), J x 4 [(0, vR x.2.2.2 x0), (1, .int x1), (2, .int x2), (3, .int x3)] [] h (mX11_awardOf_l4f x0 x1 h x2 x3) (TLo (S := (Int32 × Int32)) x 4 (fun s => [(0, vR x.2.2.2 x0), (1, .int x1), (2, .int s.1), (3, .int s.2)]) [] (fun s => h) (fun r => r = u)) := by
      intro x2 x3
      have hb21 : ∀ (x0 : Nat) (x1 : Int32) (x2 : Int32) (x3 : Int32) (x4 : Int32) (x5 : Int32), J x 21 [(0, vR x.2.2.2 x0), (1, .int x1), (2, .int x2), (3, .int x3), (4, .int x4), (5, .int x5)] [] h (mX11_awardOf_l21 x0 x1 x2 x3 x4 x5 h) (TLo (S := (Int32 × Int32)) x 4 (fun s => [(0, vR x.2.2.2 x0), (1, .int x1), (2, .int s.1), (3, .int s.2)]) [] (fun s => h) (fun r => r = u)) := by
        intro x0 x1 x2 x3 x4 x5
        have hB : ∀ (x4 : Int32) (x5 : Int32), J x 21 [(0, vR x.2.2.2 x0), (1, .int x1), (2, .int x2), (3, .int x3), (4, .int x4), (5, .int x5)] [] h (mX11_awardOf_l21f x0 x1 x2 x3 h x4 x5) (TLo (S := (Int32 × Int32)) x 21 (fun s => [(0, vR x.2.2.2 x0), (1, .int x1), (2, .int x2), (3, .int x3), (4, .int s.1), (5, .int s.2)]) [] (fun s => h) (TLo (S := (Int32 × Int32)) x 4 (fun s => [(0, vR x.2.2.2 x0), (1, .int x1), (2, .int s.1), (3, .int s.2)]) [] (fun s => h) (fun r => r = u))) := by
          intro x4 x5
          have hb81 : ∀ (x0 : Nat) (x1 : Int32) (x2 : Int32) (x3 : Int32) (x4 : Int32) (x5 : Int32), J x 81 [(0, vR x.2.2.2 x0), (1, .int x1), (2, .int x2), (3, .int x3), (4, .int x4), (5, .int x5)] [] h (mX11_awardOf_b81 x0 x1 x2 x3 x4 x5 h) (TLo (S := (Int32 × Int32)) x 21 (fun s => [(0, vR x.2.2.2 x0), (1, .int x1), (2, .int x2), (3, .int x3), (4, .int s.1), (5, .int s.2)]) [] (fun s => h) (TLo (S := (Int32 × Int32)) x 4 (fun s => [(0, vR x.2.2.2 x0), (1, .int x1), (2, .int s.1), (3, .int s.2)]) [] (fun s => h) (fun r => r = u))) := by
            intro x0 x1 x2 x3 x4 x5
            unfold mX11_awardOf_b81
            refine j_iinc (q := 84) (l2 := [(0, vR x.2.2.2 x0), (1, .int x1), (2, .int x2), (3, .int x3), (4, .int x4)]) hx (dc kX11_awardOf_0 39 rfl) 5 rfl (v := (1 : Int32)) (by decide) (hn 5 (by decide)) [0, 1, 2, 3, 4] rfl ⟨⟨show (0 : Nat) ≠ 5 by decide, Or.inl (show (0 : Nat) + 1 ≠ 5 by decide)⟩, ⟨⟨show (1 : Nat) ≠ 5 by decide, Or.inl (show (1 : Nat) + 1 ≠ 5 by decide)⟩, ⟨⟨show (2 : Nat) ≠ 5 by decide, Or.inl (show (2 : Nat) + 1 ≠ 5 by decide)⟩, ⟨⟨show (3 : Nat) ≠ 5 by decide, Or.inl (show (3 : Nat) + 1 ≠ 5 by decide)⟩, ⟨⟨show (4 : Nat) ≠ 5 by decide, Or.inr rfl⟩, trivial⟩⟩⟩⟩⟩ rfl ?_
            refine j_goto (q := 21) hx (dc kX11_awardOf_0 40 rfl) (by decide) ?_
            exact j_back [1, 2, 3, 4, 5, 0] (x4, (x5 + (1 : Int32))) rfl rfl
          unfold mX11_awardOf_l21f
          refine j_iload (q := 23) hx (dc kX11_awardOf_0 13 rfl) 5 rfl rfl ?_
          refine j_aload_n (q := 24) hx (dc kX11_awardOf_0 14 rfl) rfl 0 rfl rfl ?_
          refine w_gR (q := 27) hx (dc kX11_awardOf_0 15 rfl) ff_X11_5 lk_X11_43 rfl (fun v3 => ?_)
          refine w_gI (q := 30) hx (dc kX11_awardOf_0 16 rfl) ff_X5_2 lk_X11_264 rfl (fun v4 => ?_)
          refine j_icmp_geS (q := 33) (tgt := 87) hx (dc kX11_awardOf_0 17 rfl) (by decide) rfl ?_ ?_
          · refine j_exit ?_
            refine j_iload_n (q := 88) hx (dc kX11_awardOf_0 41 rfl) rfl 2 rfl rfl ?_
            refine j_iload (q := 90) hx (dc kX11_awardOf_0 42 rfl) 4 rfl rfl ?_
            refine j_iadd (q := 91) hx (dc kX11_awardOf_0 43 rfl) rfl ?_
            refine j_istore_n (q := 92) (i := 2) (l2 := [(0, vR x.2.2.2 x0), (1, .int x1), (3, .int x3)]) hx (dc kX11_awardOf_0 44 rfl) rfl (hn 2 (by decide)) [0, 1, 3] rfl ⟨⟨show (0 : Nat) ≠ 2 by decide, Or.inl (show (0 : Nat) + 1 ≠ 2 by decide)⟩, ⟨⟨show (1 : Nat) ≠ 2 by decide, Or.inr rfl⟩, ⟨⟨show (3 : Nat) ≠ 2 by decide, Or.inl (show (3 : Nat) + 1 ≠ 2 by decide)⟩, trivial⟩⟩⟩ rfl ?_
            refine j_iinc (q := 95) (l2 := [(2, .int (x2 + x4)), (0, vR x.2.2.2 x0), (1, .int x1)]) hx (dc kX11_awardOf_0 45 rfl) 3 rfl (v := (1 : Int32)) (by decide) (hn 3 (by decide)) [0, 1, 2] rfl ⟨⟨show (2 : Nat) ≠ 3 by decide, Or.inr rfl⟩, ⟨⟨show (0 : Nat) ≠ 3 by decide, Or.inl (show (0 : Nat) + 1 ≠ 3 by decide)⟩, ⟨⟨show (1 : Nat) ≠ 3 by decide, Or.inl (show (1 : Nat) + 1 ≠ 3 by decide)⟩, trivial⟩⟩⟩ rfl ?_
            refine j_goto (q := 4) hx (dc kX11_awardOf_0 46 rfl) (by decide) ?_
            exact j_back [2, 3, 1, 0] ((x2 + x4), (x3 + (1 : Int32))) rfl rfl
          · refine j_iload_n (q := 34) hx (dc kX11_awardOf_0 18 rfl) rfl 1 rfl rfl ?_
            refine j_iload (q := 36) hx (dc kX11_awardOf_0 19 rfl) 5 rfl rfl ?_
            refine w_cSIR (q := 39) (As := [.int x1, .int x5]) (st := []) hx (dc kX11_awardOf_0 20 rfl) (cI _ my_X11_has lm_X11_164 (by decide)) st_X11_has rfl (fun u hu => sX11_has _ _ _ _ _ _ hu) (Nat.zero_le _) rfl (fun v5 => ?_)
            refine j_if_eq (q := 42) (tgt := 81) hx (dc kX11_awardOf_0 21 rfl) (by decide) Iff.rfl rfl ?_ ?_
            · exact hb81 x0 x1 x2 x3 x4 x5
            · refine j_aload_n (q := 43) hx (dc kX11_awardOf_0 22 rfl) rfl 0 rfl rfl ?_
              refine w_gR (q := 46) hx (dc kX11_awardOf_0 23 rfl) ff_X11_3 lk_X11_33 rfl (fun v7 => ?_)
              refine w_gR (q := 49) hx (dc kX11_awardOf_0 24 rfl) ff_X1_11 lk_X11_210 rfl (fun v8 => ?_)
              refine j_aload_n (q := 50) hx (dc kX11_awardOf_0 25 rfl) rfl 0 rfl rfl ?_
              refine j_iload (q := 52) hx (dc kX11_awardOf_0 26 rfl) 5 rfl rfl ?_
              refine w_cVIR (q := 55) (As := [.int x5]) (st := [vR x.2.2.2 v8]) hx (dc kX11_awardOf_0 27 rfl) cf11 (by decide) rfl (cI _ my_X11_kind lm_X11_192 (by decide)) vs_X11_kind rfl (fun u hu => sX11_kind _ _ _ _ _ _ hu) (fun e => ite_ne (by unfold mX11_kind at e; exact e)) (sum_le (sum_R sum_nil) (by decide)) rfl (fun v9 => ?_)
              refine w_cSIR (q := 58) (As := [vR x.2.2.2 v8, .int v9]) (st := []) hx (dc kX11_awardOf_0 28 rfl) (cI _ my_X11_at lm_X11_152 (by decide)) st_X11_at rfl (fun u hu => sX11_at _ _ _ _ _ _ hu) (Nat.zero_le _) rfl (fun v11 => ?_)
              refine j_iload_n (q := 59) hx (dc kX11_awardOf_0 29 rfl) rfl 3 rfl rfl ?_
              refine j_icmp_neS (q := 62) (tgt := 81) hx (dc kX11_awardOf_0 30 rfl) (by decide) rfl ?_ ?_
              · exact hb81 x0 x1 x2 x3 x4 x5
              · refine j_iload (q := 64) hx (dc kX11_awardOf_0 31 rfl) 4 rfl rfl ?_
                refine j_aload_n (q := 65) hx (dc kX11_awardOf_0 32 rfl) rfl 0 rfl rfl ?_
                refine w_gR (q := 68) hx (dc kX11_awardOf_0 33 rfl) ff_X11_5 lk_X11_43 rfl (fun v13 => ?_)
                refine w_gR (q := 71) hx (dc kX11_awardOf_0 34 rfl) ff_X5_10 lk_X11_177 rfl (fun v14 => ?_)
                refine j_iload (q := 73) hx (dc kX11_awardOf_0 35 rfl) 5 rfl rfl ?_
                refine w_cSIR (q := 76) (As := [vR x.2.2.2 v14, .int x5]) (st := [.int x4]) hx (dc kX11_awardOf_0 36 rfl) (cI _ my_X11_at lm_X11_152 (by decide)) st_X11_at rfl (fun u hu => sX11_at _ _ _ _ _ _ hu) (sum_le (sum_I sum_nil) (by decide)) rfl (fun v15 => ?_)
                refine w_mmax (q := 79) hx (dc kX11_awardOf_0 37 rfl) lm_X11_495 ms_mmax ms_init mc_mmax (by decide) (Nat.zero_le _) rfl ?_
                refine j_istore (q := 81) (i := 4) (l2 := [(0, vR x.2.2.2 x0), (1, .int x1), (2, .int x2), (3, .int x3), (5, .int x5)]) hx (dc kX11_awardOf_0 38 rfl) (hn 4 (by decide)) [0, 1, 2, 3, 5] rfl ⟨⟨show (0 : Nat) ≠ 4 by decide, Or.inl (show (0 : Nat) + 1 ≠ 4 by decide)⟩, ⟨⟨show (1 : Nat) ≠ 4 by decide, Or.inl (show (1 : Nat) + 1 ≠ 4 by decide)⟩, ⟨⟨show (2 : Nat) ≠ 4 by decide, Or.inl (show (2 : Nat) + 1 ≠ 4 by decide)⟩, ⟨⟨show (3 : Nat) ≠ 4 by decide, Or.inr rfl⟩, ⟨⟨show (5 : Nat) ≠ 4 by decide, Or.inl (show (5 : Nat) + 1 ≠ 4 by decide)⟩, trivial⟩⟩⟩⟩⟩ rfl ?_
                exact j_sub [1, 2, 3, 4, 0, 5] rfl (hb81 x0 x1 x2 x3 (mmax x4 v15) x5)
        exact j_loop (S := (Int32 × Int32)) (lvf := fun s => [(0, vR x.2.2.2 x0), (1, .int x1), (2, .int x2), (3, .int x3), (4, .int s.1), (5, .int s.2)]) (hpf := fun s => h) (f := (fun s : (Int32 × Int32) => mX11_awardOf_l21f x0 x1 x2 x3 h s.1 s.2)) (fun s => hB s.1 s.2) (x4, x5)
      unfold mX11_awardOf_l4f
      refine j_iload_n (q := 5) hx (dc kX11_awardOf_0 4 rfl) rfl 3 rfl rfl ?_
      refine j_aload_n (q := 6) hx (dc kX11_awardOf_0 5 rfl) rfl 0 rfl rfl ?_
      refine w_gR (q := 9) hx (dc kX11_awardOf_0 6 rfl) ff_X11_3 lk_X11_33 rfl (fun v1 => ?_)
      refine w_gI (q := 12) hx (dc kX11_awardOf_0 7 rfl) ff_X1_2 lk_X11_492 rfl (fun v2 => ?_)
      refine j_icmp_geS (q := 15) (tgt := 98) hx (dc kX11_awardOf_0 8 rfl) (by decide) rfl ?_ ?_
      · refine j_exit ?_
        refine j_iload_n (q := 99) hx (dc kX11_awardOf_0 47 rfl) rfl 2 rfl rfl ?_
        exact r_iR hx hR (dc kX11_awardOf_0 48 rfl)
      · refine j_iconst (q := 16) (v := (0 : Int32)) hx (dc kX11_awardOf_0 9 rfl) (by decide) rfl ?_
        refine j_istore (q := 18) (i := 4) (l2 := [(0, vR x.2.2.2 x0), (1, .int x1), (2, .int x2), (3, .int x3)]) hx (dc kX11_awardOf_0 10 rfl) (hn 4 (by decide)) [0, 1, 2, 3] rfl ⟨⟨show (0 : Nat) ≠ 4 by decide, Or.inl (show (0 : Nat) + 1 ≠ 4 by decide)⟩, ⟨⟨show (1 : Nat) ≠ 4 by decide, Or.inl (show (1 : Nat) + 1 ≠ 4 by decide)⟩, ⟨⟨show (2 : Nat) ≠ 4 by decide, Or.inl (show (2 : Nat) + 1 ≠ 4 by decide)⟩, ⟨⟨show (3 : Nat) ≠ 4 by decide, Or.inr rfl⟩, trivial⟩⟩⟩⟩ rfl ?_
        refine j_iconst (q := 19) (v := (0 : Int32)) hx (dc kX11_awardOf_0 11 rfl) (by decide) rfl ?_
        refine j_istore (q := 21) (i := 5) (l2 := [(4, .int (0 : Int32)), (0, vR x.2.2.2 x0), (1, .int x1), (2, .int x2), (3, .int x3)]) hx (dc kX11_awardOf_0 12 rfl) (hn 5 (by decide)) [0, 1, 2, 3, 4] rfl ⟨⟨show (4 : Nat) ≠ 5 by decide, Or.inr rfl⟩, ⟨⟨show (0 : Nat) ≠ 5 by decide, Or.inl (show (0 : Nat) + 1 ≠ 5 by decide)⟩, ⟨⟨show (1 : Nat) ≠ 5 by decide, Or.inl (show (1 : Nat) + 1 ≠ 5 by decide)⟩, ⟨⟨show (2 : Nat) ≠ 5 by decide, Or.inl (show (2 : Nat) + 1 ≠ 5 by decide)⟩, ⟨⟨show (3 : Nat) ≠ 5 by decide, Or.inl (show (3 : Nat) + 1 ≠ 5 by decide)⟩, trivial⟩⟩⟩⟩⟩ rfl ?_
        exact j_sub [2, 3, 4, 5, 1, 0] rfl (hb21 x0 x1 x2 x3 (0 : Int32) (0 : Int32))
    exact j_loop (S := (Int32 × Int32)) (lvf := fun s => [(0, vR x.2.2.2 x0), (1, .int x1), (2, .int s.1), (3, .int s.2)]) (hpf := fun s => h) (f := (fun s : (Int32 × Int32) => mX11_awardOf_l4f x0 x1 h s.1 s.2)) (fun s => hB s.1 s.2) (x2, x3)
  unfold mX11_awardOf
  refine J.ckd fun hck => ?_
  refine j_iconst (q := 1) (v := (0 : Int32)) hx (dc kX11_awardOf_0 0 rfl) (by decide) rfl ?_
  refine j_istore_n (q := 2) (i := 2) (l2 := [(0, vR x.2.2.2 x0), (1, .int x1)]) hx (dc kX11_awardOf_0 1 rfl) rfl (hn 2 (by decide)) [0, 1] rfl ⟨⟨show (0 : Nat) ≠ 2 by decide, Or.inl (show (0 : Nat) + 1 ≠ 2 by decide)⟩, ⟨⟨show (1 : Nat) ≠ 2 by decide, Or.inr rfl⟩, trivial⟩⟩ rfl ?_
  refine j_iconst (q := 3) (v := (0 : Int32)) hx (dc kX11_awardOf_0 2 rfl) (by decide) rfl ?_
  refine j_istore_n (q := 4) (i := 3) (l2 := [(2, .int (0 : Int32)), (0, vR x.2.2.2 x0), (1, .int x1)]) hx (dc kX11_awardOf_0 3 rfl) rfl (hn 3 (by decide)) [0, 1, 2] rfl ⟨⟨show (2 : Nat) ≠ 3 by decide, Or.inr rfl⟩, ⟨⟨show (0 : Nat) ≠ 3 by decide, Or.inl (show (0 : Nat) + 1 ≠ 3 by decide)⟩, ⟨⟨show (1 : Nat) ≠ 3 by decide, Or.inl (show (1 : Nat) + 1 ≠ 3 by decide)⟩, trivial⟩⟩⟩ rfl ?_
  exact j_sub [2, 3, 1, 0] rfl (hb4 x0 x1 (0 : Int32) (0 : Int32))

set_option maxHeartbeats 4000000 in
set_option maxRecDepth 100000 in
theorem sX11_award (l : Launch) (w : Wd) (x0 : Nat) (x1 : Int32) (h : Hp) (u : (Int32 × Hp)) (hK : mX11_award x0 x1 h = some u) : M1 l w mi_X11_award 8 [vR w x0, .int x1] h u.2 (some (.int u.1)) := by
  refine M1.of (own := RX11) (T := fun _ r => r = u) hK (by decide +kernel) rfl (by first | (simp only [lg_lenR, lg_lenI, lg_lenL, lg_len0]; decide) | decide) (fun x hx hnl hhf hl hw hret hnm hQ h0e => ⟨?_, rfl⟩)
  subst hw
  subst hl
  have hR : Rt x h u.2 (some (.int u.1)) ((some .int)) := ⟨h0e, hhf, hret, hQ⟩
  have hn : ∀ i, i < 7 → i < x.2.2.1.1.1 := fun i hi => by rw [hnl]; exact hi
  have e0 : lv_args 0 [vR x.2.2.2 x0, .int x1] = [(0, vR x.2.2.2 x0), (1, .int x1)] := by simp only [lv_argsR, lv_argsI, lv_argsL, lv_args0]
  rw [e0]
  have hb27 : ∀ (x0 : Nat) (x1 : Int32) (x2 : Int32) (x3 : Int32) (x4 : Int32) (x5 : Int32) (h : Hp), J x 27 [(0, vR x.2.2.2 x0), (1, .int x1), (2, .int x2), (3, .int x3), (4, .int x4), (5, .int x5)] [] h (mX11_award_l27 x0 x1 x2 x3 x4 x5 h) (fun r => r = u) := by
    intro x0 x1 x2 x3 x4 x5 h
    have hB : ∀ (x2 : Int32) (x3 : Int32) (x4 : Int32) (x5 : Int32), J x 27 [(0, vR x.2.2.2 x0), (1, .int x1), (2, .int x2), (3, .int x3), (4, .int x4), (5, .int x5)] [] h (mX11_award_l27f x0 x1 h x2 x3 x4 x5) (TLo (S := (Int32 × Int32 × Int32 × Int32)) x 27 (fun s => [(0, vR x.2.2.2 x0), (1, .int x1), (2, .int s.1), (3, .int s.2.1), (4, .int s.2.2.1), (5, .int s.2.2.2)]) [] (fun s => h) (fun r => r = u)) := by
      intro x2 x3 x4 x5
      have hb87 : ∀ (x0 : Nat) (x1 : Int32) (x2 : Int32) (x3 : Int32) (x4 : Int32) (x5 : Int32) (h : Hp), J x 87 [(0, vR x.2.2.2 x0), (1, .int x1), (2, .int x2), (3, .int x3), (4, .int x4), (5, .int x5)] [] h (mX11_award_b87 x0 x1 x2 x3 x4 x5 h) (TLo (S := (Int32 × Int32 × Int32 × Int32)) x 27 (fun s => [(0, vR x.2.2.2 x0), (1, .int x1), (2, .int s.1), (3, .int s.2.1), (4, .int s.2.2.1), (5, .int s.2.2.2)]) [] (fun s => h) (fun r => r = u)) := by
        intro x0 x1 x2 x3 x4 x5 h
        unfold mX11_award_b87
        refine j_iinc (q := 90) (l2 := [(0, vR x.2.2.2 x0), (1, .int x1), (2, .int x2), (3, .int x3), (4, .int x4)]) hx (dc kX11_award_0 45 rfl) 5 rfl (v := (1 : Int32)) (by decide) (hn 5 (by decide)) [0, 1, 2, 3, 4] rfl ⟨⟨show (0 : Nat) ≠ 5 by decide, Or.inl (show (0 : Nat) + 1 ≠ 5 by decide)⟩, ⟨⟨show (1 : Nat) ≠ 5 by decide, Or.inl (show (1 : Nat) + 1 ≠ 5 by decide)⟩, ⟨⟨show (2 : Nat) ≠ 5 by decide, Or.inl (show (2 : Nat) + 1 ≠ 5 by decide)⟩, ⟨⟨show (3 : Nat) ≠ 5 by decide, Or.inl (show (3 : Nat) + 1 ≠ 5 by decide)⟩, ⟨⟨show (4 : Nat) ≠ 5 by decide, Or.inr rfl⟩, trivial⟩⟩⟩⟩⟩ rfl ?_
        refine j_goto (q := 27) hx (dc kX11_award_0 46 rfl) (by decide) ?_
        exact j_back [1, 2, 3, 4, 5, 0] (x2, x3, x4, (x5 + (1 : Int32))) rfl rfl
      unfold mX11_award_l27f
      refine j_iload (q := 29) hx (dc kX11_award_0 17 rfl) 5 rfl rfl ?_
      refine j_aload_n (q := 30) hx (dc kX11_award_0 18 rfl) rfl 0 rfl rfl ?_
      refine w_gR (q := 33) hx (dc kX11_award_0 19 rfl) ff_X11_14 lk_X11_96 rfl (fun v3 => ?_)
      refine w_gI (q := 36) hx (dc kX11_award_0 20 rfl) ff_X6_5 lk_X11_360 rfl (fun v4 => ?_)
      refine j_icmp_geS (q := 39) (tgt := 93) hx (dc kX11_award_0 21 rfl) (by decide) rfl ?_ ?_
      · refine j_exit ?_
        refine j_iload_n (q := 94) hx (dc kX11_award_0 47 rfl) rfl 1 rfl rfl ?_
        refine j_if_neS (q := 97) (tgt := 101) hx (dc kX11_award_0 48 rfl) (by decide) rfl ?_ ?_
        · refine j_iload_n (q := 102) hx (dc kX11_award_0 51 rfl) rfl 1 rfl rfl ?_
          refine j_iconst (q := 103) (v := (1 : Int32)) hx (dc kX11_award_0 52 rfl) (by decide) rfl ?_
          refine j_icmp_neS (q := 106) (tgt := 110) hx (dc kX11_award_0 53 rfl) (by decide) rfl ?_ ?_
          · refine j_iload (q := 112) hx (dc kX11_award_0 56 rfl) 4 rfl rfl ?_
            exact r_iW hx hR (dc kX11_award_0 57 rfl)
          · refine j_iload_n (q := 107) hx (dc kX11_award_0 54 rfl) rfl 3 rfl rfl ?_
            refine j_goto (q := 112) hx (dc kX11_award_0 55 rfl) (by decide) ?_
            exact r_iW hx hR (dc kX11_award_0 57 rfl)
        · refine j_iload_n (q := 98) hx (dc kX11_award_0 49 rfl) rfl 2 rfl rfl ?_
          refine j_goto (q := 112) hx (dc kX11_award_0 50 rfl) (by decide) ?_
          exact r_iW hx hR (dc kX11_award_0 57 rfl)
      · refine j_aload_n (q := 40) hx (dc kX11_award_0 22 rfl) rfl 0 rfl rfl ?_
        refine j_aload_n (q := 41) hx (dc kX11_award_0 23 rfl) rfl 0 rfl rfl ?_
        refine w_gR (q := 44) hx (dc kX11_award_0 24 rfl) ff_X11_14 lk_X11_96 rfl (fun v5 => ?_)
        refine w_gR (q := 47) hx (dc kX11_award_0 25 rfl) ff_X6_0 lk_X11_361 rfl (fun v6 => ?_)
        refine j_iload (q := 49) hx (dc kX11_award_0 26 rfl) 5 rfl rfl ?_
        refine w_cSIR (q := 52) (As := [vR x.2.2.2 v6, .int x5]) (st := [vR x.2.2.2 x0]) hx (dc kX11_award_0 27 rfl) (cI _ my_X11_at lm_X11_152 (by decide)) st_X11_at rfl (fun u hu => sX11_at _ _ _ _ _ _ hu) (sum_le (sum_R sum_nil) (by decide)) rfl (fun v7 => ?_)
        refine w_cVIR (q := 55) (As := [.int v7]) (st := []) hx (dc kX11_award_0 28 rfl) cf11 (by decide) rfl (cI _ my_X11_awardOf lm_X11_364 (by decide)) vs_X11_awardOf rfl (fun u hu => sX11_awardOf _ _ _ _ _ _ hu) (fun e => ite_ne (by unfold mX11_awardOf at e; exact e)) (Nat.zero_le _) rfl (fun v9 => ?_)
        refine j_istore (q := 57) (i := 6) (l2 := [(0, vR x.2.2.2 x0), (1, .int x1), (2, .int x2), (3, .int x3), (4, .int x4), (5, .int x5)]) hx (dc kX11_award_0 29 rfl) (hn 6 (by decide)) [0, 1, 2, 3, 4, 5] rfl ⟨⟨show (0 : Nat) ≠ 6 by decide, Or.inl (show (0 : Nat) + 1 ≠ 6 by decide)⟩, ⟨⟨show (1 : Nat) ≠ 6 by decide, Or.inl (show (1 : Nat) + 1 ≠ 6 by decide)⟩, ⟨⟨show (2 : Nat) ≠ 6 by decide, Or.inl (show (2 : Nat) + 1 ≠ 6 by decide)⟩, ⟨⟨show (3 : Nat) ≠ 6 by decide, Or.inl (show (3 : Nat) + 1 ≠ 6 by decide)⟩, ⟨⟨show (4 : Nat) ≠ 6 by decide, Or.inl (show (4 : Nat) + 1 ≠ 6 by decide)⟩, ⟨⟨show (5 : Nat) ≠ 6 by decide, Or.inr rfl⟩, trivial⟩⟩⟩⟩⟩⟩ rfl ?_
        refine j_iload_n (q := 58) hx (dc kX11_award_0 30 rfl) rfl 3 rfl rfl ?_
        refine j_iload (q := 60) hx (dc kX11_award_0 31 rfl) 0 rfl rfl ?_
        refine w_mmin (q := 63) hx (dc kX11_award_0 32 rfl) lm_X11_367 ms_mmin ms_init mc_mmin (by decide) (Nat.zero_le _) rfl ?_
        refine j_istore_n (q := 64) (i := 2) (l2 := [(6, .int v9), (0, vR x.2.2.2 x0), (1, .int x1), (3, .int x3), (4, .int x4), (5, .int x5)]) hx (dc kX11_award_0 33 rfl) rfl (hn 2 (by decide)) [0, 1, 2, 4, 5, 6] rfl ⟨⟨show (6 : Nat) ≠ 2 by decide, Or.inl (show (6 : Nat) + 1 ≠ 2 by decide)⟩, ⟨⟨show (0 : Nat) ≠ 2 by decide, Or.inl (show (0 : Nat) + 1 ≠ 2 by decide)⟩, ⟨⟨show (1 : Nat) ≠ 2 by decide, Or.inr rfl⟩, ⟨⟨show (3 : Nat) ≠ 2 by decide, Or.inl (show (3 : Nat) + 1 ≠ 2 by decide)⟩, ⟨⟨show (4 : Nat) ≠ 2 by decide, Or.inl (show (4 : Nat) + 1 ≠ 2 by decide)⟩, ⟨⟨show (5 : Nat) ≠ 2 by decide, Or.inl (show (5 : Nat) + 1 ≠ 2 by decide)⟩, trivial⟩⟩⟩⟩⟩⟩ rfl ?_
        refine j_iload (q := 66) hx (dc kX11_award_0 34 rfl) 1 rfl rfl ?_
        refine j_iload_n (q := 67) hx (dc kX11_award_0 35 rfl) rfl 4 rfl rfl ?_
        refine j_icmp_leS (q := 70) (tgt := 87) hx (dc kX11_award_0 36 rfl) (by decide) rfl ?_ ?_
        · exact j_sub [2, 3, 0, 4, 5, 6] rfl (hb87 x0 x1 (mmin x2 v9) x3 x4 x5 h)
        · refine j_iload (q := 72) hx (dc kX11_award_0 37 rfl) 1 rfl rfl ?_
          refine j_istore_n (q := 73) (i := 3) (l2 := [(2, .int (mmin x2 v9)), (0, vR x.2.2.2 x0), (1, .int x1), (5, .int x5)]) hx (dc kX11_award_0 38 rfl) rfl (hn 3 (by decide)) [0, 2, 3, 6] rfl ⟨⟨show (2 : Nat) ≠ 3 by decide, Or.inr rfl⟩, ⟨⟨show (0 : Nat) ≠ 3 by decide, Or.inl (show (0 : Nat) + 1 ≠ 3 by decide)⟩, ⟨⟨show (1 : Nat) ≠ 3 by decide, Or.inl (show (1 : Nat) + 1 ≠ 3 by decide)⟩, ⟨⟨show (5 : Nat) ≠ 3 by decide, Or.inl (show (5 : Nat) + 1 ≠ 3 by decide)⟩, trivial⟩⟩⟩⟩ rfl ?_
          refine j_aload_n (q := 74) hx (dc kX11_award_0 39 rfl) rfl 2 rfl rfl ?_
          refine w_gR (q := 77) hx (dc kX11_award_0 40 rfl) ff_X11_14 lk_X11_96 rfl (fun v11 => ?_)
          refine w_gR (q := 80) hx (dc kX11_award_0 41 rfl) ff_X6_2 lk_X11_372 rfl (fun v12 => ?_)
          refine j_iload (q := 82) hx (dc kX11_award_0 42 rfl) 4 rfl rfl ?_
          refine w_cSIR (q := 85) (As := [vR x.2.2.2 v12, .int x5]) (st := []) hx (dc kX11_award_0 43 rfl) (cI _ my_X11_at lm_X11_152 (by decide)) st_X11_at rfl (fun u hu => sX11_at _ _ _ _ _ _ hu) (Nat.zero_le _) rfl (fun v13 => ?_)
          refine j_istore (q := 87) (i := 4) (l2 := [(3, .int v9), (2, .int (mmin x2 v9)), (0, vR x.2.2.2 x0), (1, .int x1), (5, .int x5)]) hx (dc kX11_award_0 44 rfl) (hn 4 (by decide)) [0, 1, 2, 3, 4] rfl ⟨⟨show (3 : Nat) ≠ 4 by decide, Or.inr rfl⟩, ⟨⟨show (2 : Nat) ≠ 4 by decide, Or.inl (show (2 : Nat) + 1 ≠ 4 by decide)⟩, ⟨⟨show (0 : Nat) ≠ 4 by decide, Or.inl (show (0 : Nat) + 1 ≠ 4 by decide)⟩, ⟨⟨show (1 : Nat) ≠ 4 by decide, Or.inl (show (1 : Nat) + 1 ≠ 4 by decide)⟩, ⟨⟨show (5 : Nat) ≠ 4 by decide, Or.inl (show (5 : Nat) + 1 ≠ 4 by decide)⟩, trivial⟩⟩⟩⟩⟩ rfl ?_
          exact j_sub [3, 4, 2, 1, 0, 5] rfl (hb87 x0 x1 (mmin x2 v9) v9 v13 x5 h)
    exact j_loop (S := (Int32 × Int32 × Int32 × Int32)) (lvf := fun s => [(0, vR x.2.2.2 x0), (1, .int x1), (2, .int s.1), (3, .int s.2.1), (4, .int s.2.2.1), (5, .int s.2.2.2)]) (hpf := fun s => h) (f := (fun s : (Int32 × Int32 × Int32 × Int32) => mX11_award_l27f x0 x1 h s.1 s.2.1 s.2.2.1 s.2.2.2)) (fun s => hB s.1 s.2.1 s.2.2.1 s.2.2.2) (x2, x3, x4, x5)
  unfold mX11_award
  refine J.ckd fun hck => ?_
  refine j_iload_n (q := 1) hx (dc kX11_award_0 0 rfl) rfl 1 rfl rfl ?_
  refine j_if_lt (q := 4) (tgt := 9) hx (dc kX11_award_0 1 rfl) (by decide) Iff.rfl rfl ?_ ?_
  · refine j_iconst (q := 10) (v := (-1 : Int32)) hx (dc kX11_award_0 5 rfl) (by decide) rfl ?_
    exact r_iW hx hR (dc kX11_award_0 6 rfl)
  · refine j_iload_n (q := 5) hx (dc kX11_award_0 2 rfl) rfl 1 rfl rfl ?_
    refine j_iconst (q := 6) (v := (2 : Int32)) hx (dc kX11_award_0 3 rfl) (by decide) rfl ?_
    refine j_icmp_leS (q := 9) (tgt := 11) hx (dc kX11_award_0 4 rfl) (by decide) rfl ?_ ?_
    · refine j_aload_n (q := 12) hx (dc kX11_award_0 7 rfl) rfl 0 rfl rfl ?_
      refine w_cVVW (q := 15) (As := []) (st := []) hx (dc kX11_award_0 8 rfl) cf11 (by decide) rfl (cI _ my_X11_survey lm_X11_356 (by decide)) vs_X11_survey rfl (fun u hu => sX11_survey _ _ _ _ _ hu) (fun e => ite_ne (by unfold mX11_survey at e; exact e)) (Nat.zero_le _) rfl (fun h2 => ?_)
      refine j_ldc_w (q := 18) hx kc_X11_359 (dc kX11_award_0 9 rfl) rfl ?_
      refine j_istore_n (q := 19) (i := 2) (l2 := [(0, vR x.2.2.2 x0), (1, .int x1)]) hx (dc kX11_award_0 10 rfl) rfl (hn 2 (by decide)) [0, 1] rfl ⟨⟨show (0 : Nat) ≠ 2 by decide, Or.inl (show (0 : Nat) + 1 ≠ 2 by decide)⟩, ⟨⟨show (1 : Nat) ≠ 2 by decide, Or.inr rfl⟩, trivial⟩⟩ rfl ?_
      refine j_iconst (q := 20) (v := (-1 : Int32)) hx (dc kX11_award_0 11 rfl) (by decide) rfl ?_
      refine j_istore_n (q := 21) (i := 3) (l2 := [(2, .int (2147483647 : Int32)), (0, vR x.2.2.2 x0), (1, .int x1)]) hx (dc kX11_award_0 12 rfl) rfl (hn 3 (by decide)) [0, 1, 2] rfl ⟨⟨show (2 : Nat) ≠ 3 by decide, Or.inr rfl⟩, ⟨⟨show (0 : Nat) ≠ 3 by decide, Or.inl (show (0 : Nat) + 1 ≠ 3 by decide)⟩, ⟨⟨show (1 : Nat) ≠ 3 by decide, Or.inl (show (1 : Nat) + 1 ≠ 3 by decide)⟩, trivial⟩⟩⟩ rfl ?_
      refine j_iconst (q := 22) (v := (0 : Int32)) hx (dc kX11_award_0 13 rfl) (by decide) rfl ?_
      refine j_istore (q := 24) (i := 4) (l2 := [(3, .int (-1 : Int32)), (2, .int (2147483647 : Int32)), (0, vR x.2.2.2 x0), (1, .int x1)]) hx (dc kX11_award_0 14 rfl) (hn 4 (by decide)) [0, 1, 2, 3] rfl ⟨⟨show (3 : Nat) ≠ 4 by decide, Or.inr rfl⟩, ⟨⟨show (2 : Nat) ≠ 4 by decide, Or.inl (show (2 : Nat) + 1 ≠ 4 by decide)⟩, ⟨⟨show (0 : Nat) ≠ 4 by decide, Or.inl (show (0 : Nat) + 1 ≠ 4 by decide)⟩, ⟨⟨show (1 : Nat) ≠ 4 by decide, Or.inl (show (1 : Nat) + 1 ≠ 4 by decide)⟩, trivial⟩⟩⟩⟩ rfl ?_
      refine j_iconst (q := 25) (v := (0 : Int32)) hx (dc kX11_award_0 15 rfl) (by decide) rfl ?_
      refine j_istore (q := 27) (i := 5) (l2 := [(4, .int (0 : Int32)), (3, .int (-1 : Int32)), (2, .int (2147483647 : Int32)), (0, vR x.2.2.2 x0), (1, .int x1)]) hx (dc kX11_award_0 16 rfl) (hn 5 (by decide)) [0, 1, 2, 3, 4] rfl ⟨⟨show (4 : Nat) ≠ 5 by decide, Or.inr rfl⟩, ⟨⟨show (3 : Nat) ≠ 5 by decide, Or.inl (show (3 : Nat) + 1 ≠ 5 by decide)⟩, ⟨⟨show (2 : Nat) ≠ 5 by decide, Or.inl (show (2 : Nat) + 1 ≠ 5 by decide)⟩, ⟨⟨show (0 : Nat) ≠ 5 by decide, Or.inl (show (0 : Nat) + 1 ≠ 5 by decide)⟩, ⟨⟨show (1 : Nat) ≠ 5 by decide, Or.inl (show (1 : Nat) + 1 ≠ 5 by decide)⟩, trivial⟩⟩⟩⟩⟩ rfl ?_
      exact j_sub [4, 5, 3, 2, 1, 0] rfl (hb27 x0 x1 (2147483647 : Int32) (-1 : Int32) (0 : Int32) (0 : Int32) h2)
    · refine j_iconst (q := 10) (v := (-1 : Int32)) hx (dc kX11_award_0 5 rfl) (by decide) rfl ?_
      exact r_iW hx hR (dc kX11_award_0 6 rfl)

set_option maxHeartbeats 4000000 in
set_option maxRecDepth 100000 in
theorem sX11_meant (l : Launch) (w : Wd) (x0 : Nat) (x1 : Int32) (h : Hp) (u : (Int64 × Hp)) (hK : mX11_meant x0 x1 h = some u) : M1 l w mi_X11_meant 8 [vR w x0, .int x1] h u.2 (some (.long u.1)) := by
  refine M1.of (own := RX11) (T := fun _ r => r = u) hK (by decide +kernel) rfl (by first | (simp only [lg_lenR, lg_lenI, lg_lenL, lg_len0]; decide) | decide) (fun x hx hnl hhf hl hw hret hnm hQ h0e => ⟨?_, rfl⟩)
  subst hw
  subst hl
  have hR : Rt x h u.2 (some (.long u.1)) ((some .long)) := ⟨h0e, hhf, hret, hQ⟩
  have hn : ∀ i, i < 5 → i < x.2.2.1.1.1 := fun i hi => by rw [hnl]; exact hi
  have e0 : lv_args 0 [vR x.2.2.2 x0, .int x1] = [(0, vR x.2.2.2 x0), (1, .int x1)] := by simp only [lv_argsR, lv_argsI, lv_argsL, lv_args0]
  rw [e0]
  have hb9 : ∀ (h : Hp), J x 9 [] [] h (mX11_meant_b9 h) (fun r => r = u) := by
    intro  h
    unfold mX11_meant_b9
    refine j_ldc2 (q := 12) hx kl_X11_375 (dc kX11_meant_0 5 rfl) rfl ?_
    exact r_lW hx hR (dc kX11_meant_0 6 rfl)
  have hb22 : ∀ (x0 : Nat) (x1 : Int32) (x2 : Int64) (x4 : Int32) (h : Hp), J x 22 [(0, vR x.2.2.2 x0), (1, .int x1), (2, .long x2), (4, .int x4)] [] h (mX11_meant_l22 x0 x1 x2 x4 h) (fun r => r = u) := by
    intro x0 x1 x2 x4 h
    have hB : ∀ (x2 : Int64) (x4 : Int32), J x 22 [(0, vR x.2.2.2 x0), (1, .int x1), (2, .long x2), (4, .int x4)] [] h (mX11_meant_l22f x0 x1 h x2 x4) (TLo (S := (Int64 × Int32)) x 22 (fun s => [(0, vR x.2.2.2 x0), (1, .int x1), (2, .long s.1), (4, .int s.2)]) [] (fun s => h) (fun r => r = u)) := by
      intro x2 x4
      unfold mX11_meant_l22f
      refine j_iload (q := 24) hx (dc kX11_meant_0 13 rfl) 3 rfl rfl ?_
      refine j_aload_n (q := 25) hx (dc kX11_meant_0 14 rfl) rfl 0 rfl rfl ?_
      refine w_gR (q := 28) hx (dc kX11_meant_0 15 rfl) ff_X11_14 lk_X11_96 rfl (fun v3 => ?_)
      refine w_gI (q := 31) hx (dc kX11_meant_0 16 rfl) ff_X6_5 lk_X11_360 rfl (fun v4 => ?_)
      refine j_icmp_geS (q := 34) (tgt := 73) hx (dc kX11_meant_0 17 rfl) (by decide) rfl ?_ ?_
      · refine j_exit ?_
        refine j_lload_n (q := 74) hx (dc kX11_meant_0 37 rfl) rfl 2 rfl rfl ?_
        refine j_aload_n (q := 75) hx (dc kX11_meant_0 38 rfl) rfl 0 rfl rfl ?_
        refine w_gR (q := 78) hx (dc kX11_meant_0 39 rfl) ff_X11_3 lk_X11_33 rfl (fun v5 => ?_)
        refine j_aload_n (q := 79) hx (dc kX11_meant_0 40 rfl) rfl 0 rfl rfl ?_
        refine w_gR (q := 82) hx (dc kX11_meant_0 41 rfl) ff_X11_9 lk_X11_69 rfl (fun v6 => ?_)
        refine w_cVJR (q := 85) (As := [vR x.2.2.2 v6]) (st := [.long x2]) hx (dc kX11_meant_0 42 rfl) cf1 (by decide) rfl (cI _ my_X1_weigh lm_X11_348 (by decide)) vs_X1_weigh rfl (fun u hu => sX1_weigh _ _ _ _ _ _ hu) (fun e => ite_ne (by unfold mX1_weigh at e; exact e)) (sum_le (sum_J sum_nil) (by decide)) rfl (fun v7 => ?_)
        refine j_iload_n (q := 86) hx (dc kX11_meant_0 43 rfl) rfl 1 rfl rfl ?_
        refine w_cSJR (q := 89) (As := [.long x2, .long v7, .int x1]) (st := []) hx (dc kX11_meant_0 44 rfl) (cI _ my_X11_inLowestTerms lm_X11_352 (by decide)) st_X11_inLowestTerms rfl (fun u hu => sX11_inLowestTerms _ _ _ _ _ _ _ hu) (Nat.zero_le _) rfl (fun v9 => ?_)
        exact r_lW hx hR (dc kX11_meant_0 45 rfl)
      · refine j_lload_n (q := 35) hx (dc kX11_meant_0 18 rfl) rfl 2 rfl rfl ?_
        refine j_aload_n (q := 36) hx (dc kX11_meant_0 19 rfl) rfl 0 rfl rfl ?_
        refine j_aload_n (q := 37) hx (dc kX11_meant_0 20 rfl) rfl 0 rfl rfl ?_
        refine w_gR (q := 40) hx (dc kX11_meant_0 21 rfl) ff_X11_14 lk_X11_96 rfl (fun v11 => ?_)
        refine w_gR (q := 43) hx (dc kX11_meant_0 22 rfl) ff_X6_0 lk_X11_361 rfl (fun v12 => ?_)
        refine j_iload (q := 45) hx (dc kX11_meant_0 23 rfl) 3 rfl rfl ?_
        refine w_cSIR (q := 48) (As := [vR x.2.2.2 v12, .int x4]) (st := [vR x.2.2.2 x0, .long x2]) hx (dc kX11_meant_0 24 rfl) (cI _ my_X11_at lm_X11_152 (by decide)) st_X11_at rfl (fun u hu => sX11_at _ _ _ _ _ _ hu) (sum_le (sum_R (sum_J sum_nil)) (by decide)) rfl (fun v13 => ?_)
        refine w_cVIR (q := 51) (As := [.int v13]) (st := [.long x2]) hx (dc kX11_meant_0 25 rfl) cf11 (by decide) rfl (cI _ my_X11_awardOf lm_X11_364 (by decide)) vs_X11_awardOf rfl (fun u hu => sX11_awardOf _ _ _ _ _ _ hu) (fun e => ite_ne (by unfold mX11_awardOf at e; exact e)) (sum_le (sum_J sum_nil) (by decide)) rfl (fun v15 => ?_)
        refine j_i2l (q := 52) hx (dc kX11_meant_0 26 rfl) rfl ?_
        refine j_aload_n (q := 53) hx (dc kX11_meant_0 27 rfl) rfl 0 rfl rfl ?_
        refine w_gR (q := 56) hx (dc kX11_meant_0 28 rfl) ff_X11_14 lk_X11_96 rfl (fun v17 => ?_)
        refine w_gR (q := 59) hx (dc kX11_meant_0 29 rfl) ff_X6_3 lk_X11_377 rfl (fun v18 => ?_)
        refine j_iload (q := 61) hx (dc kX11_meant_0 30 rfl) 3 rfl rfl ?_
        refine w_cSJR (q := 64) (As := [vR x.2.2.2 v18, .int x4]) (st := [.long v15.toInt64, .long x2]) hx (dc kX11_meant_0 31 rfl) (cI _ my_X11_longAt lm_X11_381 (by decide)) st_X11_longAt rfl (fun u hu => sX11_longAt _ _ _ _ _ _ hu) (sum_le (sum_J (sum_J sum_nil)) (by decide)) rfl (fun v19 => ?_)
        refine j_lmul (q := 65) hx (dc kX11_meant_0 32 rfl) rfl ?_
        refine j_ladd (q := 66) hx (dc kX11_meant_0 33 rfl) rfl ?_
        refine j_lstore_n (q := 67) (i := 2) (l2 := [(0, vR x.2.2.2 x0), (1, .int x1), (4, .int x4)]) hx (dc kX11_meant_0 34 rfl) rfl (hn 3 (by decide)) [0, 1, 3] rfl ⟨⟨show (0 : Nat) ≠ 2 by decide, Or.inl (show (0 : Nat) + 1 ≠ 2 by decide)⟩, ⟨⟨show (1 : Nat) ≠ 2 by decide, Or.inr rfl⟩, ⟨⟨show (4 : Nat) ≠ 2 by decide, Or.inl (show (4 : Nat) + 1 ≠ 2 by decide)⟩, trivial⟩⟩⟩ (by simp) rfl ?_
        refine j_iinc (q := 70) (l2 := [(2, .long (x2 + (v15.toInt64 * v19))), (0, vR x.2.2.2 x0), (1, .int x1)]) hx (dc kX11_meant_0 35 rfl) 3 rfl (v := (1 : Int32)) (by decide) (hn 4 (by decide)) [0, 1, 2] rfl ⟨⟨show (2 : Nat) ≠ 4 by decide, Or.inl (show (2 : Nat) + 1 ≠ 4 by decide)⟩, ⟨⟨show (0 : Nat) ≠ 4 by decide, Or.inl (show (0 : Nat) + 1 ≠ 4 by decide)⟩, ⟨⟨show (1 : Nat) ≠ 4 by decide, Or.inl (show (1 : Nat) + 1 ≠ 4 by decide)⟩, trivial⟩⟩⟩ rfl ?_
        refine j_goto (q := 22) hx (dc kX11_meant_0 36 rfl) (by decide) ?_
        exact j_back [2, 3, 1, 0] ((x2 + (v15.toInt64 * v19)), (x4 + (1 : Int32))) rfl rfl
    exact j_loop (S := (Int64 × Int32)) (lvf := fun s => [(0, vR x.2.2.2 x0), (1, .int x1), (2, .long s.1), (4, .int s.2)]) (hpf := fun s => h) (f := (fun s : (Int64 × Int32) => mX11_meant_l22f x0 x1 h s.1 s.2)) (fun s => hB s.1 s.2) (x2, x4)
  unfold mX11_meant
  refine J.ckd fun hck => ?_
  refine j_iload_n (q := 1) hx (dc kX11_meant_0 0 rfl) rfl 1 rfl rfl ?_
  refine j_if_lt (q := 4) (tgt := 9) hx (dc kX11_meant_0 1 rfl) (by decide) Iff.rfl rfl ?_ ?_
  · exact j_sub [] rfl (hb9 h)
  · refine j_iload_n (q := 5) hx (dc kX11_meant_0 2 rfl) rfl 1 rfl rfl ?_
    refine j_iconst (q := 6) (v := (1 : Int32)) hx (dc kX11_meant_0 3 rfl) (by decide) rfl ?_
    refine j_icmp_leS (q := 9) (tgt := 13) hx (dc kX11_meant_0 4 rfl) (by decide) rfl ?_ ?_
    · refine j_aload_n (q := 14) hx (dc kX11_meant_0 7 rfl) rfl 0 rfl rfl ?_
      refine w_cVVW (q := 17) (As := []) (st := []) hx (dc kX11_meant_0 8 rfl) cf11 (by decide) rfl (cI _ my_X11_survey lm_X11_356 (by decide)) vs_X11_survey rfl (fun u hu => sX11_survey _ _ _ _ _ hu) (fun e => ite_ne (by unfold mX11_survey at e; exact e)) (Nat.zero_le _) rfl (fun h2 => ?_)
      refine j_lconst (q := 18) (v := (0 : Int64)) hx (dc kX11_meant_0 9 rfl) (by decide) rfl ?_
      refine j_lstore_n (q := 19) (i := 2) (l2 := [(0, vR x.2.2.2 x0), (1, .int x1)]) hx (dc kX11_meant_0 10 rfl) rfl (hn 3 (by decide)) [0, 1] rfl ⟨⟨show (0 : Nat) ≠ 2 by decide, Or.inl (show (0 : Nat) + 1 ≠ 2 by decide)⟩, ⟨⟨show (1 : Nat) ≠ 2 by decide, Or.inr rfl⟩, trivial⟩⟩ (by simp) rfl ?_
      refine j_iconst (q := 20) (v := (0 : Int32)) hx (dc kX11_meant_0 11 rfl) (by decide) rfl ?_
      refine j_istore (q := 22) (i := 4) (l2 := [(2, .long (0 : Int64)), (0, vR x.2.2.2 x0), (1, .int x1)]) hx (dc kX11_meant_0 12 rfl) (hn 4 (by decide)) [0, 1, 2] rfl ⟨⟨show (2 : Nat) ≠ 4 by decide, Or.inl (show (2 : Nat) + 1 ≠ 4 by decide)⟩, ⟨⟨show (0 : Nat) ≠ 4 by decide, Or.inl (show (0 : Nat) + 1 ≠ 4 by decide)⟩, ⟨⟨show (1 : Nat) ≠ 4 by decide, Or.inl (show (1 : Nat) + 1 ≠ 4 by decide)⟩, trivial⟩⟩⟩ rfl ?_
      exact j_sub [2, 3, 1, 0] rfl (hb22 x0 x1 (0 : Int64) (0 : Int32) h2)
    · exact j_sub [] rfl (hb9 h)

set_option maxHeartbeats 4000000 in
set_option maxRecDepth 100000 in
theorem sX11_outcomes (l : Launch) (w : Wd) (x0 : Nat) (h : Hp) (u : (Int32 × Hp)) (hK : mX11_outcomes x0 h = some u) : M1 l w mi_X11_outcomes 8 [vR w x0] h u.2 (some (.int u.1)) := by
  refine M1.of (own := RX11) (T := fun _ r => r = u) hK (by decide +kernel) rfl (by first | (simp only [lg_lenR, lg_lenI, lg_lenL, lg_len0]; decide) | decide) (fun x hx hnl hhf hl hw hret hnm hQ h0e => ⟨?_, rfl⟩)
  subst hw
  subst hl
  have hR : Rt x h u.2 (some (.int u.1)) ((some .int)) := ⟨h0e, hhf, hret, hQ⟩
  have hn : ∀ i, i < 1 → i < x.2.2.1.1.1 := fun i hi => by rw [hnl]; exact hi
  have e0 : lv_args 0 [vR x.2.2.2 x0] = [(0, vR x.2.2.2 x0)] := by simp only [lv_argsR, lv_argsI, lv_argsL, lv_args0]
  rw [e0]
  unfold mX11_outcomes
  refine J.ckd fun hck => ?_
  refine j_aload_n (q := 1) hx (dc kX11_outcomes_0 0 rfl) rfl 0 rfl rfl ?_
  refine w_cVVW (q := 4) (As := []) (st := []) hx (dc kX11_outcomes_0 1 rfl) cf11 (by decide) rfl (cI _ my_X11_survey lm_X11_356 (by decide)) vs_X11_survey rfl (fun u hu => sX11_survey _ _ _ _ _ hu) (fun e => ite_ne (by unfold mX11_survey at e; exact e)) (Nat.zero_le _) rfl (fun h2 => ?_)
  refine j_aload_n (q := 5) hx (dc kX11_outcomes_0 2 rfl) rfl 0 rfl rfl ?_
  refine w_gR (q := 8) hx (dc kX11_outcomes_0 3 rfl) ff_X11_14 lk_X11_96 rfl (fun v3 => ?_)
  refine w_gI (q := 11) hx (dc kX11_outcomes_0 4 rfl) ff_X6_5 lk_X11_360 rfl (fun v4 => ?_)
  exact r_iW hx hR (dc kX11_outcomes_0 5 rfl)

set_option maxHeartbeats 4000000 in
set_option maxRecDepth 100000 in
theorem sX11_outcome (l : Launch) (w : Wd) (x0 : Nat) (x1 : Int32) (x2 : Int32) (h : Hp) (u : (Int32 × Hp)) (hK : mX11_outcome x0 x1 x2 h = some u) : M1 l w mi_X11_outcome 8 [vR w x0, .int x1, .int x2] h u.2 (some (.int u.1)) := by
  refine M1.of (own := RX11) (T := fun _ r => r = u) hK (by decide +kernel) rfl (by first | (simp only [lg_lenR, lg_lenI, lg_lenL, lg_len0]; decide) | decide) (fun x hx hnl hhf hl hw hret hnm hQ h0e => ⟨?_, rfl⟩)
  subst hw
  subst hl
  have hR : Rt x h u.2 (some (.int u.1)) ((some .int)) := ⟨h0e, hhf, hret, hQ⟩
  have hn : ∀ i, i < 3 → i < x.2.2.1.1.1 := fun i hi => by rw [hnl]; exact hi
  have e0 : lv_args 0 [vR x.2.2.2 x0, .int x1, .int x2] = [(0, vR x.2.2.2 x0), (1, .int x1), (2, .int x2)] := by simp only [lv_argsR, lv_argsI, lv_argsL, lv_args0]
  rw [e0]
  unfold mX11_outcome
  refine J.ckd fun hck => ?_
  refine j_aload_n (q := 1) hx (dc kX11_outcome_0 0 rfl) rfl 0 rfl rfl ?_
  refine w_cVVW (q := 4) (As := []) (st := []) hx (dc kX11_outcome_0 1 rfl) cf11 (by decide) rfl (cI _ my_X11_survey lm_X11_356 (by decide)) vs_X11_survey rfl (fun u hu => sX11_survey _ _ _ _ _ hu) (fun e => ite_ne (by unfold mX11_survey at e; exact e)) (Nat.zero_le _) rfl (fun h2 => ?_)
  refine j_iload_n (q := 5) hx (dc kX11_outcome_0 2 rfl) rfl 1 rfl rfl ?_
  refine j_if_lt (q := 8) (tgt := 19) hx (dc kX11_outcome_0 3 rfl) (by decide) Iff.rfl rfl ?_ ?_
  · refine j_iconst (q := 20) (v := (-1 : Int32)) hx (dc kX11_outcome_0 9 rfl) (by decide) rfl ?_
    exact r_iW hx hR (dc kX11_outcome_0 10 rfl)
  · refine j_iload_n (q := 9) hx (dc kX11_outcome_0 4 rfl) rfl 1 rfl rfl ?_
    refine j_aload_n (q := 10) hx (dc kX11_outcome_0 5 rfl) rfl 0 rfl rfl ?_
    refine w_gR (q := 13) hx (dc kX11_outcome_0 6 rfl) ff_X11_14 lk_X11_96 rfl (fun v3 => ?_)
    refine w_gI (q := 16) hx (dc kX11_outcome_0 7 rfl) ff_X6_5 lk_X11_360 rfl (fun v4 => ?_)
    refine j_icmp_lt (q := 19) (tgt := 21) hx (dc kX11_outcome_0 8 rfl) (by decide) Iff.rfl rfl ?_ ?_
    · refine j_iload_n (q := 22) hx (dc kX11_outcome_0 11 rfl) rfl 2 rfl rfl ?_
      refine j_tsw (td := 84) hx (dc kX11_outcome_0 12 rfl) (by decide) (by decide) ?_ ?_
      · refine j_iconst (q := 85) (v := (-1 : Int32)) hx (dc kX11_outcome_0 31 rfl) (by decide) rfl ?_
        exact r_iW hx hR (dc kX11_outcome_0 32 rfl)
      · refine ⟨⟨48, by decide, ?_⟩, ⟨60, by decide, ?_⟩, ⟨72, by decide, ?_⟩, trivial⟩
        · refine j_aload_n (q := 49) hx (dc kX11_outcome_0 13 rfl) rfl 0 rfl rfl ?_
          refine w_gR (q := 52) hx (dc kX11_outcome_0 14 rfl) ff_X11_14 lk_X11_96 rfl (fun v5 => ?_)
          refine w_gR (q := 55) hx (dc kX11_outcome_0 15 rfl) ff_X6_0 lk_X11_361 rfl (fun v6 => ?_)
          refine j_iload_n (q := 56) hx (dc kX11_outcome_0 16 rfl) rfl 1 rfl rfl ?_
          refine w_cSIR (q := 59) (As := [vR x.2.2.2 v6, .int x1]) (st := []) hx (dc kX11_outcome_0 17 rfl) (cI _ my_X11_at lm_X11_152 (by decide)) st_X11_at rfl (fun u hu => sX11_at _ _ _ _ _ _ hu) (Nat.zero_le _) rfl (fun v7 => ?_)
          exact r_iW hx hR (dc kX11_outcome_0 18 rfl)
        · refine j_aload_n (q := 61) hx (dc kX11_outcome_0 19 rfl) rfl 0 rfl rfl ?_
          refine w_gR (q := 64) hx (dc kX11_outcome_0 20 rfl) ff_X11_14 lk_X11_96 rfl (fun v9 => ?_)
          refine w_gR (q := 67) hx (dc kX11_outcome_0 21 rfl) ff_X6_1 lk_X11_385 rfl (fun v10 => ?_)
          refine j_iload_n (q := 68) hx (dc kX11_outcome_0 22 rfl) rfl 1 rfl rfl ?_
          refine w_cSIR (q := 71) (As := [vR x.2.2.2 v10, .int x1]) (st := []) hx (dc kX11_outcome_0 23 rfl) (cI _ my_X11_at lm_X11_152 (by decide)) st_X11_at rfl (fun u hu => sX11_at _ _ _ _ _ _ hu) (Nat.zero_le _) rfl (fun v11 => ?_)
          exact r_iW hx hR (dc kX11_outcome_0 24 rfl)
        · refine j_aload_n (q := 73) hx (dc kX11_outcome_0 25 rfl) rfl 0 rfl rfl ?_
          refine w_gR (q := 76) hx (dc kX11_outcome_0 26 rfl) ff_X11_14 lk_X11_96 rfl (fun v13 => ?_)
          refine w_gR (q := 79) hx (dc kX11_outcome_0 27 rfl) ff_X6_2 lk_X11_372 rfl (fun v14 => ?_)
          refine j_iload_n (q := 80) hx (dc kX11_outcome_0 28 rfl) rfl 1 rfl rfl ?_
          refine w_cSIR (q := 83) (As := [vR x.2.2.2 v14, .int x1]) (st := []) hx (dc kX11_outcome_0 29 rfl) (cI _ my_X11_at lm_X11_152 (by decide)) st_X11_at rfl (fun u hu => sX11_at _ _ _ _ _ _ hu) (Nat.zero_le _) rfl (fun v15 => ?_)
          exact r_iW hx hR (dc kX11_outcome_0 30 rfl)
    · refine j_iconst (q := 20) (v := (-1 : Int32)) hx (dc kX11_outcome_0 9 rfl) (by decide) rfl ?_
      exact r_iW hx hR (dc kX11_outcome_0 10 rfl)

set_option maxHeartbeats 4000000 in
set_option maxRecDepth 100000 in
theorem sX11_seekProofs (l : Launch) (w : Wd) (x0 : Nat) (x1 : Int32) (x2 : Int32) (h : Hp) (u : (Int32 × Hp)) (hK : mX11_seekProofs x0 x1 x2 h = some u) : M1 l w mi_X11_seekProofs 4 [vR w x0, .int x1, .int x2] h u.2 (some (.int u.1)) := by
  refine M1.of (own := RX11) (T := fun _ r => r = u) hK (by decide +kernel) rfl (by first | (simp only [lg_lenR, lg_lenI, lg_lenL, lg_len0]; decide) | decide) (fun x hx hnl hhf hl hw hret hnm hQ h0e => ⟨?_, rfl⟩)
  subst hw
  subst hl
  have hR : Rt x h u.2 (some (.int u.1)) ((some .int)) := ⟨h0e, hhf, hret, hQ⟩
  have hn : ∀ i, i < 6 → i < x.2.2.1.1.1 := fun i hi => by rw [hnl]; exact hi
  have e0 : lv_args 0 [vR x.2.2.2 x0, .int x1, .int x2] = [(0, vR x.2.2.2 x0), (1, .int x1), (2, .int x2)] := by simp only [lv_argsR, lv_argsI, lv_argsL, lv_args0]
  rw [e0]
  have hb30 : ∀ (x0 : Nat) (x2 : Int32) (x3 : Int32) (x4 : Int32) (x5 : Int32) (h : Hp), J x 30 [(0, vR x.2.2.2 x0), (2, .int x2), (3, .int x3), (4, .int x4), (5, .int x5)] [] h (mX11_seekProofs_l30 x0 x2 x3 x4 x5 h) (fun r => r = u) := by
    intro x0 x2 x3 x4 x5 h
    have hB : ∀ (x4 : Int32) (x5 : Int32) (h : Hp), J x 30 [(0, vR x.2.2.2 x0), (2, .int x2), (3, .int x3), (4, .int x4), (5, .int x5)] [] h (mX11_seekProofs_l30f x0 x2 x3 x4 x5 h) (TLo (S := (Int32 × Int32 × Hp)) x 30 (fun s => [(0, vR x.2.2.2 x0), (2, .int x2), (3, .int x3), (4, .int s.1), (5, .int s.2.1)]) [] (fun s => s.2.2) (fun r => r = u)) := by
      intro x4 x5 h
      have hb82 : ∀ (x0 : Nat) (x2 : Int32) (x3 : Int32) (x4 : Int32) (x5 : Int32) (h : Hp), J x 82 [(0, vR x.2.2.2 x0), (2, .int x2), (3, .int x3), (4, .int x4), (5, .int x5)] [] h (mX11_seekProofs_b82 x0 x2 x3 x4 x5 h) (TLo (S := (Int32 × Int32 × Hp)) x 30 (fun s => [(0, vR x.2.2.2 x0), (2, .int x2), (3, .int x3), (4, .int s.1), (5, .int s.2.1)]) [] (fun s => s.2.2) (fun r => r = u)) := by
        intro x0 x2 x3 x4 x5 h
        unfold mX11_seekProofs_b82
        refine j_iinc (q := 85) (l2 := [(0, vR x.2.2.2 x0), (2, .int x2), (3, .int x3), (4, .int x4)]) hx (dc kX11_seekProofs_0 38 rfl) 4 rfl (v := (1 : Int32)) (by decide) (hn 5 (by decide)) [0, 1, 2, 3] rfl ⟨⟨show (0 : Nat) ≠ 5 by decide, Or.inl (show (0 : Nat) + 1 ≠ 5 by decide)⟩, ⟨⟨show (2 : Nat) ≠ 5 by decide, Or.inl (show (2 : Nat) + 1 ≠ 5 by decide)⟩, ⟨⟨show (3 : Nat) ≠ 5 by decide, Or.inl (show (3 : Nat) + 1 ≠ 5 by decide)⟩, ⟨⟨show (4 : Nat) ≠ 5 by decide, Or.inr rfl⟩, trivial⟩⟩⟩⟩ rfl ?_
        refine j_goto (q := 30) hx (dc kX11_seekProofs_0 39 rfl) (by decide) ?_
        exact j_back [1, 2, 3, 4, 0] (x4, (x5 + (1 : Int32)), h) rfl rfl
      unfold mX11_seekProofs_l30f
      refine j_iload (q := 32) hx (dc kX11_seekProofs_0 16 rfl) 4 rfl rfl ?_
      refine j_sipush (q := 35) (v := (6561 : Int32)) hx (dc kX11_seekProofs_0 17 rfl) (by decide) rfl ?_
      refine j_icmp_geS (q := 38) (tgt := 88) hx (dc kX11_seekProofs_0 18 rfl) (by decide) rfl ?_ ?_
      · refine j_exit ?_
        refine j_iload (q := 90) hx (dc kX11_seekProofs_0 40 rfl) 3 rfl rfl ?_
        exact r_iW hx hR (dc kX11_seekProofs_0 41 rfl)
      · refine j_iload (q := 40) hx (dc kX11_seekProofs_0 19 rfl) 3 rfl rfl ?_
        refine j_iload_n (q := 41) hx (dc kX11_seekProofs_0 20 rfl) rfl 1 rfl rfl ?_
        refine j_icmp_eq (q := 44) (tgt := 88) hx (dc kX11_seekProofs_0 21 rfl) (by decide) Iff.rfl rfl ?_ ?_
        · refine j_exit ?_
          refine j_iload (q := 90) hx (dc kX11_seekProofs_0 40 rfl) 3 rfl rfl ?_
          exact r_iW hx hR (dc kX11_seekProofs_0 41 rfl)
        · refine j_aload_n (q := 45) hx (dc kX11_seekProofs_0 22 rfl) rfl 0 rfl rfl ?_
          refine w_gR (q := 48) hx (dc kX11_seekProofs_0 23 rfl) ff_X11_13 lk_X11_89 rfl (fun v6 => ?_)
          refine w_cVIW (q := 51) (As := []) (st := []) hx (dc kX11_seekProofs_0 24 rfl) cf3 (by decide) rfl (cI _ my_X3_more lm_X11_470 (by decide)) vs_X3_more rfl (fun u hu => sX3_more _ _ _ _ _ hu) (fun e => ite_ne (by unfold mX3_more at e; exact e)) (Nat.zero_le _) rfl (fun v7 h8 => ?_)
          refine j_if_eq (q := 54) (tgt := 88) hx (dc kX11_seekProofs_0 25 rfl) (by decide) Iff.rfl rfl ?_ ?_
          · refine j_exit ?_
            refine j_iload (q := 90) hx (dc kX11_seekProofs_0 40 rfl) 3 rfl rfl ?_
            exact r_iW hx hR (dc kX11_seekProofs_0 41 rfl)
          · refine j_aload_n (q := 55) hx (dc kX11_seekProofs_0 26 rfl) rfl 0 rfl rfl ?_
            refine w_gR (q := 58) hx (dc kX11_seekProofs_0 27 rfl) ff_X11_12 lk_X11_82 rfl (fun v9 => ?_)
            refine j_aload_n (q := 59) hx (dc kX11_seekProofs_0 28 rfl) rfl 0 rfl rfl ?_
            refine w_gR (q := 62) hx (dc kX11_seekProofs_0 29 rfl) ff_X11_13 lk_X11_89 rfl (fun v10 => ?_)
            refine w_gI (q := 65) hx (dc kX11_seekProofs_0 30 rfl) ff_X3_2 lk_X11_319 rfl (fun v11 => ?_)
            refine j_aload_n (q := 66) hx (dc kX11_seekProofs_0 31 rfl) rfl 0 rfl rfl ?_
            refine w_gR (q := 69) hx (dc kX11_seekProofs_0 32 rfl) ff_X11_13 lk_X11_89 rfl (fun v12 => ?_)
            refine w_gI (q := 72) hx (dc kX11_seekProofs_0 33 rfl) ff_X3_3 lk_X11_320 rfl (fun v13 => ?_)
            refine j_iload_n (q := 73) hx (dc kX11_seekProofs_0 34 rfl) rfl 2 rfl rfl ?_
            refine w_cVIR (q := 76) (As := [.int v11, .int v13, .int x3]) (st := []) hx (dc kX11_seekProofs_0 35 rfl) cf9 (by decide) rfl (cI _ my_X9_isProof lm_X11_479 (by decide)) vs_X9_isProof rfl (fun u hu => sX9_isProof _ _ _ _ _ _ _ _ hu) (fun e => ite_ne (by unfold mX9_isProof at e; exact e)) (Nat.zero_le _) rfl (fun v14 => ?_)
            refine j_if_eq (q := 79) (tgt := 82) hx (dc kX11_seekProofs_0 36 rfl) (by decide) Iff.rfl rfl ?_ ?_
            · exact hb82 x0 x2 x3 x4 x5 h8
            · refine j_iinc (q := 82) (l2 := [(0, vR x.2.2.2 x0), (2, .int x2), (3, .int x3), (5, .int x5)]) hx (dc kX11_seekProofs_0 37 rfl) 3 rfl (v := (1 : Int32)) (by decide) (hn 4 (by decide)) [0, 1, 2, 4] rfl ⟨⟨show (0 : Nat) ≠ 4 by decide, Or.inl (show (0 : Nat) + 1 ≠ 4 by decide)⟩, ⟨⟨show (2 : Nat) ≠ 4 by decide, Or.inl (show (2 : Nat) + 1 ≠ 4 by decide)⟩, ⟨⟨show (3 : Nat) ≠ 4 by decide, Or.inr rfl⟩, ⟨⟨show (5 : Nat) ≠ 4 by decide, Or.inl (show (5 : Nat) + 1 ≠ 4 by decide)⟩, trivial⟩⟩⟩⟩ rfl ?_
              exact j_sub [1, 2, 3, 0, 4] rfl (hb82 x0 x2 x3 (x4 + (1 : Int32)) x5 h8)
    exact j_loop (S := (Int32 × Int32 × Hp)) (lvf := fun s => [(0, vR x.2.2.2 x0), (2, .int x2), (3, .int x3), (4, .int s.1), (5, .int s.2.1)]) (hpf := fun s => s.2.2) (f := (fun s : (Int32 × Int32 × Hp) => mX11_seekProofs_l30f x0 x2 x3 s.1 s.2.1 s.2.2)) (fun s => hB s.1 s.2.1 s.2.2) (x4, x5, h)
  have hb9 : ∀ (x0 : Nat) (x2 : Int32) (t0 : Int32) (h : Hp), J x 9 [(0, vR x.2.2.2 x0), (2, .int x2)] [.int t0] h (mX11_seekProofs_b9 x0 x2 t0 h) (fun r => r = u) := by
    intro x0 x2 t0 h
    unfold mX11_seekProofs_b9
    refine j_istore_n (q := 10) (i := 3) (l2 := [(0, vR x.2.2.2 x0), (2, .int x2)]) hx (dc kX11_seekProofs_0 5 rfl) rfl (hn 3 (by decide)) [0, 1] rfl ⟨⟨show (0 : Nat) ≠ 3 by decide, Or.inl (show (0 : Nat) + 1 ≠ 3 by decide)⟩, ⟨⟨show (2 : Nat) ≠ 3 by decide, Or.inr rfl⟩, trivial⟩⟩ rfl ?_
    refine j_iconst (q := 11) (v := (0 : Int32)) hx (dc kX11_seekProofs_0 6 rfl) (by decide) rfl ?_
    refine j_istore (q := 13) (i := 4) (l2 := [(3, .int t0), (0, vR x.2.2.2 x0), (2, .int x2)]) hx (dc kX11_seekProofs_0 7 rfl) (hn 4 (by decide)) [0, 1, 2] rfl ⟨⟨show (3 : Nat) ≠ 4 by decide, Or.inr rfl⟩, ⟨⟨show (0 : Nat) ≠ 4 by decide, Or.inl (show (0 : Nat) + 1 ≠ 4 by decide)⟩, ⟨⟨show (2 : Nat) ≠ 4 by decide, Or.inl (show (2 : Nat) + 1 ≠ 4 by decide)⟩, trivial⟩⟩⟩ rfl ?_
    refine j_aload_n (q := 14) hx (dc kX11_seekProofs_0 8 rfl) rfl 2 rfl rfl ?_
    refine w_gR (q := 17) hx (dc kX11_seekProofs_0 9 rfl) ff_X11_13 lk_X11_89 rfl (fun v1 => ?_)
    refine j_aload_n (q := 18) hx (dc kX11_seekProofs_0 10 rfl) rfl 2 rfl rfl ?_
    refine w_gR (q := 21) hx (dc kX11_seekProofs_0 11 rfl) ff_X11_12 lk_X11_82 rfl (fun v2 => ?_)
    refine w_gI (q := 24) hx (dc kX11_seekProofs_0 12 rfl) ff_X9_4 lk_X11_464 rfl (fun v3 => ?_)
    refine w_cVVW (q := 27) (As := [.int v3]) (st := []) hx (dc kX11_seekProofs_0 13 rfl) cf3 (by decide) rfl (cI _ my_X3_start lm_X11_467 (by decide)) vs_X3_start rfl (fun u hu => sX3_start _ _ _ _ _ _ hu) (fun e => ite_ne (by unfold mX3_start at e; exact e)) (Nat.zero_le _) rfl (fun h5 => ?_)
    refine j_iconst (q := 28) (v := (0 : Int32)) hx (dc kX11_seekProofs_0 14 rfl) (by decide) rfl ?_
    refine j_istore (q := 30) (i := 5) (l2 := [(4, .int (0 : Int32)), (3, .int t0), (0, vR x.2.2.2 x0), (2, .int x2)]) hx (dc kX11_seekProofs_0 15 rfl) (hn 5 (by decide)) [0, 1, 2, 3] rfl ⟨⟨show (4 : Nat) ≠ 5 by decide, Or.inr rfl⟩, ⟨⟨show (3 : Nat) ≠ 5 by decide, Or.inl (show (3 : Nat) + 1 ≠ 5 by decide)⟩, ⟨⟨show (0 : Nat) ≠ 5 by decide, Or.inl (show (0 : Nat) + 1 ≠ 5 by decide)⟩, ⟨⟨show (2 : Nat) ≠ 5 by decide, Or.inl (show (2 : Nat) + 1 ≠ 5 by decide)⟩, trivial⟩⟩⟩⟩ rfl ?_
    exact j_sub [3, 4, 2, 1, 0] rfl (hb30 x0 x2 t0 (0 : Int32) (0 : Int32) h5)
  unfold mX11_seekProofs
  refine J.ckd fun hck => ?_
  refine j_iload_n (q := 1) hx (dc kX11_seekProofs_0 0 rfl) rfl 1 rfl rfl ?_
  refine j_if_eq (q := 4) (tgt := 8) hx (dc kX11_seekProofs_0 1 rfl) (by decide) Iff.rfl rfl ?_ ?_
  · refine j_iconst (q := 9) (v := (2 : Int32)) hx (dc kX11_seekProofs_0 4 rfl) (by decide) rfl ?_
    exact j_sub [0, 2] rfl (hb9 x0 x2 (2 : Int32) h)
  · refine j_iconst (q := 5) (v := (1 : Int32)) hx (dc kX11_seekProofs_0 2 rfl) (by decide) rfl ?_
    refine j_goto (q := 9) hx (dc kX11_seekProofs_0 3 rfl) (by decide) ?_
    exact j_sub [0, 2] rfl (hb9 x0 x2 (1 : Int32) h)

set_option maxHeartbeats 4000000 in
set_option maxRecDepth 100000 in
theorem sX11_proofs (l : Launch) (w : Wd) (x0 : Nat) (x1 : Int32) (x2 : Int32) (h : Hp) (u : (Int32 × Hp)) (hK : mX11_proofs x0 x1 x2 h = some u) : M1 l w mi_X11_proofs 5 [vR w x0, .int x1, .int x2] h u.2 (some (.int u.1)) := by
  refine M1.of (own := RX11) (T := fun _ r => r = u) hK (by decide +kernel) rfl (by first | (simp only [lg_lenR, lg_lenI, lg_lenL, lg_len0]; decide) | decide) (fun x hx hnl hhf hl hw hret hnm hQ h0e => ⟨?_, rfl⟩)
  subst hw
  subst hl
  have hR : Rt x h u.2 (some (.int u.1)) ((some .int)) := ⟨h0e, hhf, hret, hQ⟩
  have hn : ∀ i, i < 3 → i < x.2.2.1.1.1 := fun i hi => by rw [hnl]; exact hi
  have e0 : lv_args 0 [vR x.2.2.2 x0, .int x1, .int x2] = [(0, vR x.2.2.2 x0), (1, .int x1), (2, .int x2)] := by simp only [lv_argsR, lv_argsI, lv_argsL, lv_args0]
  rw [e0]
  unfold mX11_proofs
  refine J.ckd fun hck => ?_
  refine j_aload_n (q := 1) hx (dc kX11_proofs_0 0 rfl) rfl 0 rfl rfl ?_
  refine j_iload_n (q := 2) hx (dc kX11_proofs_0 1 rfl) rfl 1 rfl rfl ?_
  refine w_cVIR (q := 5) (As := [.int x1]) (st := []) hx (dc kX11_proofs_0 2 rfl) cf11 (by decide) rfl (cI _ my_X11_isCount lm_X11_174 (by decide)) vs_X11_isCount rfl (fun u hu => sX11_isCount _ _ _ _ _ _ hu) (fun e => ite_ne (by unfold mX11_isCount at e; exact e)) (Nat.zero_le _) rfl (fun v1 => ?_)
  refine j_if_neS (q := 8) (tgt := 10) hx (dc kX11_proofs_0 3 rfl) (by decide) rfl ?_ ?_
  · refine j_aload_n (q := 11) hx (dc kX11_proofs_0 6 rfl) rfl 0 rfl rfl ?_
    refine j_iload_n (q := 12) hx (dc kX11_proofs_0 7 rfl) rfl 1 rfl rfl ?_
    refine w_cVVW (q := 15) (As := [.int x1]) (st := []) hx (dc kX11_proofs_0 8 rfl) cf11 (by decide) rfl (cI _ my_X11_growTrial lm_X11_336 (by decide)) vs_X11_growTrial rfl (fun u hu => sX11_growTrial _ _ _ _ _ _ hu) (fun e => ite_ne (by unfold mX11_growTrial at e; exact e)) (Nat.zero_le _) rfl (fun h4 => ?_)
    refine j_aload_n (q := 16) hx (dc kX11_proofs_0 9 rfl) rfl 0 rfl rfl ?_
    refine j_iload_n (q := 17) hx (dc kX11_proofs_0 10 rfl) rfl 2 rfl rfl ?_
    refine j_ldc_w (q := 20) hx kc_X11_359 (dc kX11_proofs_0 11 rfl) rfl ?_
    refine w_cVIW (q := 23) (As := [.int x2, .int (2147483647 : Int32)]) (st := []) hx (dc kX11_proofs_0 12 rfl) cf11 (by decide) rfl (cI _ my_X11_seekProofs lm_X11_388 (by decide)) vs_X11_seekProofs rfl (fun u hu => sX11_seekProofs _ _ _ _ _ _ _ hu) (fun e => ite_ne (by unfold mX11_seekProofs at e; exact e)) (Nat.zero_le _) rfl (fun v5 h6 => ?_)
    exact r_iW hx hR (dc kX11_proofs_0 13 rfl)
  · refine j_iconst (q := 9) (v := (-1 : Int32)) hx (dc kX11_proofs_0 4 rfl) (by decide) rfl ?_
    exact r_iW hx hR (dc kX11_proofs_0 5 rfl)

set_option maxHeartbeats 4000000 in
set_option maxRecDepth 100000 in
theorem sX11_proof (l : Launch) (w : Wd) (x0 : Nat) (x1 : Int32) (x2 : Int32) (x3 : Int32) (x4 : Int32) (h : Hp) (u : (Int32 × Hp)) (hK : mX11_proof x0 x1 x2 x3 x4 h = some u) : M1 l w mi_X11_proof 5 [vR w x0, .int x1, .int x2, .int x3, .int x4] h u.2 (some (.int u.1)) := by
  refine M1.of (own := RX11) (T := fun _ r => r = u) hK (by decide +kernel) rfl (by first | (simp only [lg_lenR, lg_lenI, lg_lenL, lg_len0]; decide) | decide) (fun x hx hnl hhf hl hw hret hnm hQ h0e => ⟨?_, rfl⟩)
  subst hw
  subst hl
  have hR : Rt x h u.2 (some (.int u.1)) ((some .int)) := ⟨h0e, hhf, hret, hQ⟩
  have hn : ∀ i, i < 5 → i < x.2.2.1.1.1 := fun i hi => by rw [hnl]; exact hi
  have e0 : lv_args 0 [vR x.2.2.2 x0, .int x1, .int x2, .int x3, .int x4] = [(0, vR x.2.2.2 x0), (1, .int x1), (2, .int x2), (3, .int x3), (4, .int x4)] := by simp only [lv_argsR, lv_argsI, lv_argsL, lv_args0]
  rw [e0]
  unfold mX11_proof
  refine J.ckd fun hck => ?_
  refine j_aload_n (q := 1) hx (dc kX11_proof_0 0 rfl) rfl 0 rfl rfl ?_
  refine j_iload_n (q := 2) hx (dc kX11_proof_0 1 rfl) rfl 1 rfl rfl ?_
  refine w_cVIR (q := 5) (As := [.int x1]) (st := []) hx (dc kX11_proof_0 2 rfl) cf11 (by decide) rfl (cI _ my_X11_isCount lm_X11_174 (by decide)) vs_X11_isCount rfl (fun u hu => sX11_isCount _ _ _ _ _ _ hu) (fun e => ite_ne (by unfold mX11_isCount at e; exact e)) (Nat.zero_le _) rfl (fun v1 => ?_)
  refine j_if_eq (q := 8) (tgt := 23) hx (dc kX11_proof_0 3 rfl) (by decide) Iff.rfl rfl ?_ ?_
  · refine j_iconst (q := 24) (v := (-1 : Int32)) hx (dc kX11_proof_0 11 rfl) (by decide) rfl ?_
    exact r_iW hx hR (dc kX11_proof_0 12 rfl)
  · refine j_iload_n (q := 9) hx (dc kX11_proof_0 4 rfl) rfl 3 rfl rfl ?_
    refine j_if_lt (q := 12) (tgt := 23) hx (dc kX11_proof_0 5 rfl) (by decide) Iff.rfl rfl ?_ ?_
    · refine j_iconst (q := 24) (v := (-1 : Int32)) hx (dc kX11_proof_0 11 rfl) (by decide) rfl ?_
      exact r_iW hx hR (dc kX11_proof_0 12 rfl)
    · refine j_iload (q := 14) hx (dc kX11_proof_0 6 rfl) 4 rfl rfl ?_
      refine j_if_lt (q := 17) (tgt := 23) hx (dc kX11_proof_0 7 rfl) (by decide) Iff.rfl rfl ?_ ?_
      · refine j_iconst (q := 24) (v := (-1 : Int32)) hx (dc kX11_proof_0 11 rfl) (by decide) rfl ?_
        exact r_iW hx hR (dc kX11_proof_0 12 rfl)
      · refine j_iload (q := 19) hx (dc kX11_proof_0 8 rfl) 4 rfl rfl ?_
        refine j_iconst (q := 20) (v := (1 : Int32)) hx (dc kX11_proof_0 9 rfl) (by decide) rfl ?_
        refine j_icmp_leS (q := 23) (tgt := 25) hx (dc kX11_proof_0 10 rfl) (by decide) rfl ?_ ?_
        · refine j_aload_n (q := 26) hx (dc kX11_proof_0 13 rfl) rfl 0 rfl rfl ?_
          refine j_iload_n (q := 27) hx (dc kX11_proof_0 14 rfl) rfl 1 rfl rfl ?_
          refine w_cVVW (q := 30) (As := [.int x1]) (st := []) hx (dc kX11_proof_0 15 rfl) cf11 (by decide) rfl (cI _ my_X11_growTrial lm_X11_336 (by decide)) vs_X11_growTrial rfl (fun u hu => sX11_growTrial _ _ _ _ _ _ hu) (fun e => ite_ne (by unfold mX11_growTrial at e; exact e)) (Nat.zero_le _) rfl (fun h4 => ?_)
          refine j_aload_n (q := 31) hx (dc kX11_proof_0 16 rfl) rfl 0 rfl rfl ?_
          refine j_iload_n (q := 32) hx (dc kX11_proof_0 17 rfl) rfl 2 rfl rfl ?_
          refine j_iload_n (q := 33) hx (dc kX11_proof_0 18 rfl) rfl 3 rfl rfl ?_
          refine j_iconst (q := 34) (v := (1 : Int32)) hx (dc kX11_proof_0 19 rfl) (by decide) rfl ?_
          refine j_iadd (q := 35) hx (dc kX11_proof_0 20 rfl) rfl ?_
          refine w_cVIW (q := 38) (As := [.int x2, .int (x3 + (1 : Int32))]) (st := []) hx (dc kX11_proof_0 21 rfl) cf11 (by decide) rfl (cI _ my_X11_seekProofs lm_X11_388 (by decide)) vs_X11_seekProofs rfl (fun u hu => sX11_seekProofs _ _ _ _ _ _ _ hu) (fun e => ite_ne (by unfold mX11_seekProofs at e; exact e)) (Nat.zero_le _) rfl (fun v5 h6 => ?_)
          refine j_iload_n (q := 39) hx (dc kX11_proof_0 22 rfl) rfl 3 rfl rfl ?_
          refine j_iconst (q := 40) (v := (1 : Int32)) hx (dc kX11_proof_0 23 rfl) (by decide) rfl ?_
          refine j_iadd (q := 41) hx (dc kX11_proof_0 24 rfl) rfl ?_
          refine j_icmp_eq (q := 44) (tgt := 46) hx (dc kX11_proof_0 25 rfl) (by decide) Iff.rfl rfl ?_ ?_
          · refine j_iload (q := 48) hx (dc kX11_proof_0 28 rfl) 4 rfl rfl ?_
            refine j_if_neS (q := 51) (tgt := 61) hx (dc kX11_proof_0 29 rfl) (by decide) rfl ?_ ?_
            · refine j_aload_n (q := 62) hx (dc kX11_proof_0 34 rfl) rfl 0 rfl rfl ?_
              refine w_gR (q := 65) hx (dc kX11_proof_0 35 rfl) ff_X11_13 lk_X11_89 rfl (fun v7 => ?_)
              refine w_gI (q := 68) hx (dc kX11_proof_0 36 rfl) ff_X3_3 lk_X11_320 rfl (fun v8 => ?_)
              exact r_iW hx hR (dc kX11_proof_0 37 rfl)
            · refine j_aload_n (q := 52) hx (dc kX11_proof_0 30 rfl) rfl 0 rfl rfl ?_
              refine w_gR (q := 55) hx (dc kX11_proof_0 31 rfl) ff_X11_13 lk_X11_89 rfl (fun v9 => ?_)
              refine w_gI (q := 58) hx (dc kX11_proof_0 32 rfl) ff_X3_2 lk_X11_319 rfl (fun v10 => ?_)
              refine j_goto (q := 68) hx (dc kX11_proof_0 33 rfl) (by decide) ?_
              exact r_iW hx hR (dc kX11_proof_0 37 rfl)
          · refine j_iconst (q := 45) (v := (-1 : Int32)) hx (dc kX11_proof_0 26 rfl) (by decide) rfl ?_
            exact r_iW hx hR (dc kX11_proof_0 27 rfl)
        · refine j_iconst (q := 24) (v := (-1 : Int32)) hx (dc kX11_proof_0 11 rfl) (by decide) rfl ?_
          exact r_iW hx hR (dc kX11_proof_0 12 rfl)

set_option maxHeartbeats 4000000 in
set_option maxRecDepth 100000 in
theorem sX11_duel (l : Launch) (w : Wd) (x0 : Nat) (x1 : Int32) (x2 : Int32) (h : Hp) (u : (Int32 × Hp)) (hK : mX11_duel x0 x1 x2 h = some u) : M1 l w mi_X11_duel 6 [vR w x0, .int x1, .int x2] h u.2 (some (.int u.1)) := by
  refine M1.of (own := RX11) (T := fun _ r => r = u) hK (by decide +kernel) rfl (by first | (simp only [lg_lenR, lg_lenI, lg_lenL, lg_len0]; decide) | decide) (fun x hx hnl hhf hl hw hret hnm hQ h0e => ⟨?_, rfl⟩)
  subst hw
  subst hl
  have hR : Rt x h u.2 (some (.int u.1)) ((some .int)) := ⟨h0e, hhf, hret, hQ⟩
  have hn : ∀ i, i < 3 → i < x.2.2.1.1.1 := fun i hi => by rw [hnl]; exact hi
  have e0 : lv_args 0 [vR x.2.2.2 x0, .int x1, .int x2] = [(0, vR x.2.2.2 x0), (1, .int x1), (2, .int x2)] := by simp only [lv_argsR, lv_argsI, lv_argsL, lv_args0]
  rw [e0]
  unfold mX11_duel
  refine J.ckd fun hck => ?_
  refine j_aload_n (q := 1) hx (dc kX11_duel_0 0 rfl) rfl 0 rfl rfl ?_
  refine j_iload_n (q := 2) hx (dc kX11_duel_0 1 rfl) rfl 1 rfl rfl ?_
  refine w_cVIR (q := 5) (As := [.int x1]) (st := []) hx (dc kX11_duel_0 2 rfl) cf11 (by decide) rfl (cI _ my_X11_isCount lm_X11_174 (by decide)) vs_X11_isCount rfl (fun u hu => sX11_isCount _ _ _ _ _ _ hu) (fun e => ite_ne (by unfold mX11_isCount at e; exact e)) (Nat.zero_le _) rfl (fun v1 => ?_)
  refine j_if_eq (q := 8) (tgt := 17) hx (dc kX11_duel_0 3 rfl) (by decide) Iff.rfl rfl ?_ ?_
  · refine j_iconst (q := 18) (v := (-1 : Int32)) hx (dc kX11_duel_0 9 rfl) (by decide) rfl ?_
    exact r_iW hx hR (dc kX11_duel_0 10 rfl)
  · refine j_iload_n (q := 9) hx (dc kX11_duel_0 4 rfl) rfl 2 rfl rfl ?_
    refine j_if_lt (q := 12) (tgt := 17) hx (dc kX11_duel_0 5 rfl) (by decide) Iff.rfl rfl ?_ ?_
    · refine j_iconst (q := 18) (v := (-1 : Int32)) hx (dc kX11_duel_0 9 rfl) (by decide) rfl ?_
      exact r_iW hx hR (dc kX11_duel_0 10 rfl)
    · refine j_iload_n (q := 13) hx (dc kX11_duel_0 6 rfl) rfl 2 rfl rfl ?_
      refine j_iconst (q := 14) (v := (1 : Int32)) hx (dc kX11_duel_0 7 rfl) (by decide) rfl ?_
      refine j_icmp_leS (q := 17) (tgt := 19) hx (dc kX11_duel_0 8 rfl) (by decide) rfl ?_ ?_
      · refine j_aload_n (q := 20) hx (dc kX11_duel_0 11 rfl) rfl 0 rfl rfl ?_
        refine j_iload_n (q := 21) hx (dc kX11_duel_0 12 rfl) rfl 1 rfl rfl ?_
        refine w_cVVW (q := 24) (As := [.int x1]) (st := []) hx (dc kX11_duel_0 13 rfl) cf11 (by decide) rfl (cI _ my_X11_growTrial lm_X11_336 (by decide)) vs_X11_growTrial rfl (fun u hu => sX11_growTrial _ _ _ _ _ _ hu) (fun e => ite_ne (by unfold mX11_growTrial at e; exact e)) (Nat.zero_le _) rfl (fun h4 => ?_)
        refine j_aload_n (q := 25) hx (dc kX11_duel_0 14 rfl) rfl 0 rfl rfl ?_
        refine w_gR (q := 28) hx (dc kX11_duel_0 15 rfl) ff_X11_12 lk_X11_82 rfl (fun v5 => ?_)
        refine j_iload_n (q := 29) hx (dc kX11_duel_0 16 rfl) rfl 2 rfl rfl ?_
        refine w_cVVW (q := 32) (As := [.int x2]) (st := []) hx (dc kX11_duel_0 17 rfl) cf9 (by decide) rfl (cI _ my_X9_playOut lm_X11_392 (by decide)) vs_X9_playOut rfl (fun u hu => sX9_playOut _ _ _ _ _ _ hu) (fun e => ite_ne (by unfold mX9_playOut at e; exact e)) (Nat.zero_le _) rfl (fun h7 => ?_)
        refine j_aload_n (q := 33) hx (dc kX11_duel_0 18 rfl) rfl 0 rfl rfl ?_
        refine w_gR (q := 36) hx (dc kX11_duel_0 19 rfl) ff_X11_12 lk_X11_82 rfl (fun v8 => ?_)
        refine w_cVIR (q := 39) (As := []) (st := []) hx (dc kX11_duel_0 20 rfl) cf9 (by decide) rfl (cI _ my_X9_value lm_X11_342 (by decide)) vs_X9_value rfl (fun u hu => sX9_value _ _ _ _ _ hu) (fun e => ite_ne (by unfold mX9_value at e; exact e)) (Nat.zero_le _) rfl (fun v9 => ?_)
        exact r_iW hx hR (dc kX11_duel_0 21 rfl)
      · refine j_iconst (q := 18) (v := (-1 : Int32)) hx (dc kX11_duel_0 9 rfl) (by decide) rfl ?_
        exact r_iW hx hR (dc kX11_duel_0 10 rfl)

set_option maxHeartbeats 4000000 in
set_option maxRecDepth 100000 in
theorem sX11_turn (l : Launch) (w : Wd) (x0 : Nat) (x1 : Int32) (x2 : Int32) (x3 : Int32) (h : Hp) (u : (Int32 × Hp)) (hK : mX11_turn x0 x1 x2 x3 h = some u) : M1 l w mi_X11_turn 6 [vR w x0, .int x1, .int x2, .int x3] h u.2 (some (.int u.1)) := by
  refine M1.of (own := RX11) (T := fun _ r => r = u) hK (by decide +kernel) rfl (by first | (simp only [lg_lenR, lg_lenI, lg_lenL, lg_len0]; decide) | decide) (fun x hx hnl hhf hl hw hret hnm hQ h0e => ⟨?_, rfl⟩)
  subst hw
  subst hl
  have hR : Rt x h u.2 (some (.int u.1)) ((some .int)) := ⟨h0e, hhf, hret, hQ⟩
  have hn : ∀ i, i < 5 → i < x.2.2.1.1.1 := fun i hi => by rw [hnl]; exact hi
  have e0 : lv_args 0 [vR x.2.2.2 x0, .int x1, .int x2, .int x3] = [(0, vR x.2.2.2 x0), (1, .int x1), (2, .int x2), (3, .int x3)] := by simp only [lv_argsR, lv_argsI, lv_argsL, lv_args0]
  rw [e0]
  unfold mX11_turn
  refine J.ckd fun hck => ?_
  refine j_aload_n (q := 1) hx (dc kX11_turn_0 0 rfl) rfl 0 rfl rfl ?_
  refine j_iload_n (q := 2) hx (dc kX11_turn_0 1 rfl) rfl 1 rfl rfl ?_
  refine w_cVIR (q := 5) (As := [.int x1]) (st := []) hx (dc kX11_turn_0 2 rfl) cf11 (by decide) rfl (cI _ my_X11_isCount lm_X11_174 (by decide)) vs_X11_isCount rfl (fun u hu => sX11_isCount _ _ _ _ _ _ hu) (fun e => ite_ne (by unfold mX11_isCount at e; exact e)) (Nat.zero_le _) rfl (fun v1 => ?_)
  refine j_if_eq (q := 8) (tgt := 26) hx (dc kX11_turn_0 3 rfl) (by decide) Iff.rfl rfl ?_ ?_
  · refine j_iconst (q := 27) (v := (-1 : Int32)) hx (dc kX11_turn_0 14 rfl) (by decide) rfl ?_
    exact r_iW hx hR (dc kX11_turn_0 15 rfl)
  · refine j_iload_n (q := 9) hx (dc kX11_turn_0 4 rfl) rfl 2 rfl rfl ?_
    refine j_if_lt (q := 12) (tgt := 26) hx (dc kX11_turn_0 5 rfl) (by decide) Iff.rfl rfl ?_ ?_
    · refine j_iconst (q := 27) (v := (-1 : Int32)) hx (dc kX11_turn_0 14 rfl) (by decide) rfl ?_
      exact r_iW hx hR (dc kX11_turn_0 15 rfl)
    · refine j_iload_n (q := 13) hx (dc kX11_turn_0 6 rfl) rfl 2 rfl rfl ?_
      refine j_iconst (q := 14) (v := (1 : Int32)) hx (dc kX11_turn_0 7 rfl) (by decide) rfl ?_
      refine j_icmp_gt (q := 17) (tgt := 26) hx (dc kX11_turn_0 8 rfl) (by decide) Iff.rfl rfl ?_ ?_
      · refine j_iconst (q := 27) (v := (-1 : Int32)) hx (dc kX11_turn_0 14 rfl) (by decide) rfl ?_
        exact r_iW hx hR (dc kX11_turn_0 15 rfl)
      · refine j_iload_n (q := 18) hx (dc kX11_turn_0 9 rfl) rfl 3 rfl rfl ?_
        refine j_if_lt (q := 21) (tgt := 26) hx (dc kX11_turn_0 10 rfl) (by decide) Iff.rfl rfl ?_ ?_
        · refine j_iconst (q := 27) (v := (-1 : Int32)) hx (dc kX11_turn_0 14 rfl) (by decide) rfl ?_
          exact r_iW hx hR (dc kX11_turn_0 15 rfl)
        · refine j_iload_n (q := 22) hx (dc kX11_turn_0 11 rfl) rfl 3 rfl rfl ?_
          refine j_iconst (q := 23) (v := (1 : Int32)) hx (dc kX11_turn_0 12 rfl) (by decide) rfl ?_
          refine j_icmp_leS (q := 26) (tgt := 28) hx (dc kX11_turn_0 13 rfl) (by decide) rfl ?_ ?_
          · refine j_aload_n (q := 29) hx (dc kX11_turn_0 16 rfl) rfl 0 rfl rfl ?_
            refine j_iload_n (q := 30) hx (dc kX11_turn_0 17 rfl) rfl 1 rfl rfl ?_
            refine w_cVVW (q := 33) (As := [.int x1]) (st := []) hx (dc kX11_turn_0 18 rfl) cf11 (by decide) rfl (cI _ my_X11_growTrial lm_X11_336 (by decide)) vs_X11_growTrial rfl (fun u hu => sX11_growTrial _ _ _ _ _ _ hu) (fun e => ite_ne (by unfold mX11_growTrial at e; exact e)) (Nat.zero_le _) rfl (fun h4 => ?_)
            refine j_aload_n (q := 34) hx (dc kX11_turn_0 19 rfl) rfl 0 rfl rfl ?_
            refine w_gR (q := 37) hx (dc kX11_turn_0 20 rfl) ff_X11_12 lk_X11_82 rfl (fun v5 => ?_)
            refine j_iload_n (q := 38) hx (dc kX11_turn_0 21 rfl) rfl 2 rfl rfl ?_
            refine w_cVVW (q := 41) (As := [.int x2]) (st := []) hx (dc kX11_turn_0 22 rfl) cf9 (by decide) rfl (cI _ my_X9_playOut lm_X11_392 (by decide)) vs_X9_playOut rfl (fun u hu => sX9_playOut _ _ _ _ _ _ hu) (fun e => ite_ne (by unfold mX9_playOut at e; exact e)) (Nat.zero_le _) rfl (fun h7 => ?_)
            refine j_aload_n (q := 42) hx (dc kX11_turn_0 23 rfl) rfl 0 rfl rfl ?_
            refine w_gR (q := 45) hx (dc kX11_turn_0 24 rfl) ff_X11_12 lk_X11_82 rfl (fun v8 => ?_)
            refine j_iload_n (q := 46) hx (dc kX11_turn_0 25 rfl) rfl 2 rfl rfl ?_
            refine w_cVIR (q := 49) (As := [.int x2]) (st := []) hx (dc kX11_turn_0 26 rfl) cf9 (by decide) rfl (cI _ my_X9_winningTurn lm_X11_395 (by decide)) vs_X9_winningTurn rfl (fun u hu => sX9_winningTurn _ _ _ _ _ _ hu) (fun e => ite_ne (by unfold mX9_winningTurn at e; exact e)) (Nat.zero_le _) rfl (fun v9 => ?_)
            refine j_istore (q := 51) (i := 4) (l2 := [(3, .int x3)]) hx (dc kX11_turn_0 27 rfl) (hn 4 (by decide)) [3] rfl ⟨⟨show (3 : Nat) ≠ 4 by decide, Or.inr rfl⟩, trivial⟩ rfl ?_
            refine j_iload (q := 53) hx (dc kX11_turn_0 28 rfl) 0 rfl rfl ?_
            refine j_if_geS (q := 56) (tgt := 61) hx (dc kX11_turn_0 29 rfl) (by decide) rfl ?_ ?_
            · refine j_iload_n (q := 62) hx (dc kX11_turn_0 32 rfl) rfl 1 rfl rfl ?_
              refine j_if_neS (q := 65) (tgt := 72) hx (dc kX11_turn_0 33 rfl) (by decide) rfl ?_ ?_
              · refine j_iload (q := 74) hx (dc kX11_turn_0 38 rfl) 0 rfl rfl ?_
                refine j_iconst (q := 75) (v := (1 : Int32)) hx (dc kX11_turn_0 39 rfl) (by decide) rfl ?_
                refine j_iand (q := 76) hx (dc kX11_turn_0 40 rfl) rfl ?_
                exact r_iW hx hR (dc kX11_turn_0 41 rfl)
              · refine j_iload (q := 67) hx (dc kX11_turn_0 34 rfl) 0 rfl rfl ?_
                refine j_iconst (q := 68) (v := (1 : Int32)) hx (dc kX11_turn_0 35 rfl) (by decide) rfl ?_
                refine j_ishr (q := 69) hx (dc kX11_turn_0 36 rfl) rfl ?_
                refine j_goto (q := 76) hx (dc kX11_turn_0 37 rfl) (by decide) ?_
                exact r_iW hx hR (dc kX11_turn_0 41 rfl)
            · refine j_bipush (q := 58) (v := (-2 : Int32)) hx (dc kX11_turn_0 30 rfl) (by decide) rfl ?_
              refine j_goto (q := 76) hx (dc kX11_turn_0 31 rfl) (by decide) ?_
              exact r_iW hx hR (dc kX11_turn_0 41 rfl)
          · refine j_iconst (q := 27) (v := (-1 : Int32)) hx (dc kX11_turn_0 14 rfl) (by decide) rfl ?_
            exact r_iW hx hR (dc kX11_turn_0 15 rfl)

set_option maxHeartbeats 4000000 in
set_option maxRecDepth 100000 in
theorem sX11_together (l : Launch) (w : Wd) (x0 : Nat) (x1 : Int32) (h : Hp) (u : (Int32 × Hp)) (hK : mX11_together x0 x1 h = some u) : M1 l w mi_X11_together 4 [vR w x0, .int x1] h u.2 (some (.int u.1)) := by
  refine M1.of (own := RX11) (T := fun _ r => r = u) hK (by decide +kernel) rfl (by first | (simp only [lg_lenR, lg_lenI, lg_lenL, lg_len0]; decide) | decide) (fun x hx hnl hhf hl hw hret hnm hQ h0e => ⟨?_, rfl⟩)
  subst hw
  subst hl
  have hR : Rt x h u.2 (some (.int u.1)) ((some .int)) := ⟨h0e, hhf, hret, hQ⟩
  have hn : ∀ i, i < 3 → i < x.2.2.1.1.1 := fun i hi => by rw [hnl]; exact hi
  have e0 : lv_args 0 [vR x.2.2.2 x0, .int x1] = [(0, vR x.2.2.2 x0), (1, .int x1)] := by simp only [lv_argsR, lv_argsI, lv_argsL, lv_args0]
  rw [e0]
  have hb24 : ∀ (x0 : Nat) (x1 : Int32) (x2 : Int32) (h : Hp), J x 24 [(0, vR x.2.2.2 x0), (1, .int x1), (2, .int x2)] [] h (mX11_together_l24 x0 x1 x2 h) (fun r => r = u) := by
    intro x0 x1 x2 h
    have hB : ∀ (x2 : Int32) (h : Hp), J x 24 [(0, vR x.2.2.2 x0), (1, .int x1), (2, .int x2)] [] h (mX11_together_l24f x0 x1 x2 h) (TLo (S := (Int32 × Hp)) x 24 (fun s => [(0, vR x.2.2.2 x0), (1, .int x1), (2, .int s.1)]) [] (fun s => s.2) (fun r => r = u)) := by
      intro x2 h
      have hb62 : ∀ (x0 : Nat) (x1 : Int32) (x2 : Int32) (h : Hp), J x 62 [(0, vR x.2.2.2 x0), (1, .int x1), (2, .int x2)] [] h (mX11_together_b62 x0 x1 x2 h) (TLo (S := (Int32 × Hp)) x 24 (fun s => [(0, vR x.2.2.2 x0), (1, .int x1), (2, .int s.1)]) [] (fun s => s.2) (fun r => r = u)) := by
        intro x0 x1 x2 h
        unfold mX11_together_b62
        refine j_iinc (q := 65) (l2 := [(0, vR x.2.2.2 x0), (1, .int x1)]) hx (dc kX11_together_0 32 rfl) 2 rfl (v := (1 : Int32)) (by decide) (hn 2 (by decide)) [0, 1] rfl ⟨⟨show (0 : Nat) ≠ 2 by decide, Or.inl (show (0 : Nat) + 1 ≠ 2 by decide)⟩, ⟨⟨show (1 : Nat) ≠ 2 by decide, Or.inr rfl⟩, trivial⟩⟩ rfl ?_
        refine j_goto (q := 24) hx (dc kX11_together_0 33 rfl) (by decide) ?_
        exact j_back [1, 2, 0] ((x2 + (1 : Int32)), h) rfl rfl
      unfold mX11_together_l24f
      refine j_iload_n (q := 25) hx (dc kX11_together_0 14 rfl) rfl 2 rfl rfl ?_
      refine j_aload_n (q := 26) hx (dc kX11_together_0 15 rfl) rfl 0 rfl rfl ?_
      refine w_gR (q := 29) hx (dc kX11_together_0 16 rfl) ff_X11_5 lk_X11_43 rfl (fun v5 => ?_)
      refine w_gI (q := 32) hx (dc kX11_together_0 17 rfl) ff_X5_2 lk_X11_264 rfl (fun v6 => ?_)
      refine j_icmp_geS (q := 35) (tgt := 68) hx (dc kX11_together_0 18 rfl) (by decide) rfl ?_ ?_
      · refine j_exit ?_
        refine j_aload_n (q := 69) hx (dc kX11_together_0 34 rfl) rfl 0 rfl rfl ?_
        refine w_gR (q := 72) hx (dc kX11_together_0 35 rfl) ff_X11_9 lk_X11_69 rfl (fun v7 => ?_)
        refine w_cVIR (q := 75) (As := []) (st := []) hx (dc kX11_together_0 36 rfl) cf10 (by decide) rfl (cI _ my_X10_isEmpty lm_X11_300 (by decide)) vs_X10_isEmpty rfl (fun u hu => sX10_isEmpty _ _ _ _ _ hu) (fun e => ite_ne (by unfold mX10_isEmpty at e; exact e)) (Nat.zero_le _) rfl (fun v8 => ?_)
        refine j_if_eq (q := 78) (tgt := 82) hx (dc kX11_together_0 37 rfl) (by decide) Iff.rfl rfl ?_ ?_
        · refine j_iconst (q := 83) (v := (1 : Int32)) hx (dc kX11_together_0 40 rfl) (by decide) rfl ?_
          exact r_iW hx hR (dc kX11_together_0 41 rfl)
        · refine j_iconst (q := 79) (v := (0 : Int32)) hx (dc kX11_together_0 38 rfl) (by decide) rfl ?_
          refine j_goto (q := 83) hx (dc kX11_together_0 39 rfl) (by decide) ?_
          exact r_iW hx hR (dc kX11_together_0 41 rfl)
      · refine j_iload_n (q := 36) hx (dc kX11_together_0 19 rfl) rfl 1 rfl rfl ?_
        refine j_iload_n (q := 37) hx (dc kX11_together_0 20 rfl) rfl 2 rfl rfl ?_
        refine w_cSIR (q := 40) (As := [.int x1, .int x2]) (st := []) hx (dc kX11_together_0 21 rfl) (cI _ my_X11_has lm_X11_164 (by decide)) st_X11_has rfl (fun u hu => sX11_has _ _ _ _ _ _ hu) (Nat.zero_le _) rfl (fun v10 => ?_)
        refine j_if_eq (q := 43) (tgt := 62) hx (dc kX11_together_0 22 rfl) (by decide) Iff.rfl rfl ?_ ?_
        · exact hb62 x0 x1 x2 h
        · refine j_aload_n (q := 44) hx (dc kX11_together_0 23 rfl) rfl 0 rfl rfl ?_
          refine w_gR (q := 47) hx (dc kX11_together_0 24 rfl) ff_X11_9 lk_X11_69 rfl (fun v12 => ?_)
          refine j_aload_n (q := 48) hx (dc kX11_together_0 25 rfl) rfl 0 rfl rfl ?_
          refine w_gR (q := 51) hx (dc kX11_together_0 26 rfl) ff_X11_3 lk_X11_33 rfl (fun v13 => ?_)
          refine j_aload_n (q := 52) hx (dc kX11_together_0 27 rfl) rfl 0 rfl rfl ?_
          refine j_iload_n (q := 53) hx (dc kX11_together_0 28 rfl) rfl 2 rfl rfl ?_
          refine w_cVIR (q := 56) (As := [.int x2]) (st := [vR x.2.2.2 v13, vR x.2.2.2 v12]) hx (dc kX11_together_0 29 rfl) cf11 (by decide) rfl (cI _ my_X11_kind lm_X11_192 (by decide)) vs_X11_kind rfl (fun u hu => sX11_kind _ _ _ _ _ _ hu) (fun e => ite_ne (by unfold mX11_kind at e; exact e)) (sum_le (sum_R (sum_R sum_nil)) (by decide)) rfl (fun v14 => ?_)
          refine w_cVRR (q := 59) (As := [.int v14]) (st := [vR x.2.2.2 v12]) hx (dc kX11_together_0 30 rfl) cf1 (by decide) rfl (cI _ my_X1_wonBy lm_X11_304 (by decide)) vs_X1_wonBy rfl (fun u hu => sX1_wonBy _ _ _ _ _ _ hu) (fun e => ite_ne (by unfold mX1_wonBy at e; exact e)) (sum_le (sum_R sum_nil) (by decide)) rfl (fun v16 => ?_)
          refine w_cVVW (q := 62) (As := [vR x.2.2.2 v16]) (st := []) hx (dc kX11_together_0 31 rfl) cf10 (by decide) rfl (cI _ my_X10_and lm_X11_308 (by decide)) vs_X10_and rfl (fun u hu => sX10_and _ _ _ _ _ _ hu) (fun e => ite_ne (by unfold mX10_and at e; exact e)) (Nat.zero_le _) rfl (fun h19 => ?_)
          exact hb62 x0 x1 x2 h19
    exact j_loop (S := (Int32 × Hp)) (lvf := fun s => [(0, vR x.2.2.2 x0), (1, .int x1), (2, .int s.1)]) (hpf := fun s => s.2) (f := (fun s : (Int32 × Hp) => mX11_together_l24f x0 x1 s.1 s.2)) (fun s => hB s.1 s.2) (x2, h)
  unfold mX11_together
  refine J.ckd fun hck => ?_
  refine j_iload_n (q := 1) hx (dc kX11_together_0 0 rfl) rfl 1 rfl rfl ?_
  refine j_if_lt (q := 4) (tgt := 16) hx (dc kX11_together_0 1 rfl) (by decide) Iff.rfl rfl ?_ ?_
  · refine j_iconst (q := 17) (v := (-1 : Int32)) hx (dc kX11_together_0 8 rfl) (by decide) rfl ?_
    exact r_iW hx hR (dc kX11_together_0 9 rfl)
  · refine j_iload_n (q := 5) hx (dc kX11_together_0 2 rfl) rfl 1 rfl rfl ?_
    refine j_aload_n (q := 6) hx (dc kX11_together_0 3 rfl) rfl 0 rfl rfl ?_
    refine w_gR (q := 9) hx (dc kX11_together_0 4 rfl) ff_X11_5 lk_X11_43 rfl (fun v1 => ?_)
    refine w_gI (q := 12) hx (dc kX11_together_0 5 rfl) ff_X5_2 lk_X11_264 rfl (fun v2 => ?_)
    refine j_ishr (q := 13) hx (dc kX11_together_0 6 rfl) rfl ?_
    refine j_if_eq (q := 16) (tgt := 18) hx (dc kX11_together_0 7 rfl) (by decide) Iff.rfl rfl ?_ ?_
    · refine j_aload_n (q := 19) hx (dc kX11_together_0 10 rfl) rfl 0 rfl rfl ?_
      refine w_cVVW (q := 22) (As := []) (st := []) hx (dc kX11_together_0 11 rfl) cf11 (by decide) rfl (cI _ my_X11_remember lm_X11_204 (by decide)) vs_X11_remember rfl (fun u hu => sX11_remember _ _ _ _ _ hu) (fun e => ite_ne (by unfold mX11_remember at e; exact e)) (Nat.zero_le _) rfl (fun h4 => ?_)
      refine j_iconst (q := 23) (v := (0 : Int32)) hx (dc kX11_together_0 12 rfl) (by decide) rfl ?_
      refine j_istore_n (q := 24) (i := 2) (l2 := [(0, vR x.2.2.2 x0), (1, .int x1)]) hx (dc kX11_together_0 13 rfl) rfl (hn 2 (by decide)) [0, 1] rfl ⟨⟨show (0 : Nat) ≠ 2 by decide, Or.inl (show (0 : Nat) + 1 ≠ 2 by decide)⟩, ⟨⟨show (1 : Nat) ≠ 2 by decide, Or.inr rfl⟩, trivial⟩⟩ rfl ?_
      exact j_sub [1, 2, 0] rfl (hb24 x0 x1 (0 : Int32) h4)
    · refine j_iconst (q := 17) (v := (-1 : Int32)) hx (dc kX11_together_0 8 rfl) (by decide) rfl ?_
      exact r_iW hx hR (dc kX11_together_0 9 rfl)

set_option maxHeartbeats 4000000 in
set_option maxRecDepth 100000 in
theorem sX11_elect (l : Launch) (w : Wd) (x0 : Nat) (x1 : Int32) (h : Hp) (u : (Int32 × Hp)) (hK : mX11_elect x0 x1 h = some u) : M1 l w mi_X11_elect 8 [vR w x0, .int x1] h u.2 (some (.int u.1)) := by
  refine M1.of (own := RX11) (T := fun _ r => r = u) hK (by decide +kernel) rfl (by first | (simp only [lg_lenR, lg_lenI, lg_lenL, lg_len0]; decide) | decide) (fun x hx hnl hhf hl hw hret hnm hQ h0e => ⟨?_, rfl⟩)
  subst hw
  subst hl
  have hR : Rt x h u.2 (some (.int u.1)) ((some .int)) := ⟨h0e, hhf, hret, hQ⟩
  have hn : ∀ i, i < 6 → i < x.2.2.1.1.1 := fun i hi => by rw [hnl]; exact hi
  have e0 : lv_args 0 [vR x.2.2.2 x0, .int x1] = [(0, vR x.2.2.2 x0), (1, .int x1)] := by simp only [lv_argsR, lv_argsI, lv_argsL, lv_args0]
  rw [e0]
  have hb19 : ∀ (x0 : Nat) (x1 : Int32) (x2 : Int32) (x3 : Int32) (h : Hp), J x 19 [(0, vR x.2.2.2 x0), (1, .int x1), (2, .int x2), (3, .int x3)] [] h (mX11_elect_l19 x0 x1 x2 x3 h) (fun r => r = u) := by
    intro x0 x1 x2 x3 h
    have hB : ∀ (x2 : Int32) (x3 : Int32), J x 19 [(0, vR x.2.2.2 x0), (1, .int x1), (2, .int x2), (3, .int x3)] [] h (mX11_elect_l19f x0 x1 h x2 x3) (TLo (S := (Int32 × Int32)) x 19 (fun s => [(0, vR x.2.2.2 x0), (1, .int x1), (2, .int s.1), (3, .int s.2)]) [] (fun s => h) (fun r => r = u)) := by
      intro x2 x3
      have hb74 : ∀ (x0 : Nat) (x1 : Int32) (x2 : Int32) (x3 : Int32) (h : Hp), J x 74 [(0, vR x.2.2.2 x0), (1, .int x1), (2, .int x2), (3, .int x3)] [] h (mX11_elect_b74 x0 x1 x2 x3 h) (TLo (S := (Int32 × Int32)) x 19 (fun s => [(0, vR x.2.2.2 x0), (1, .int x1), (2, .int s.1), (3, .int s.2)]) [] (fun s => h) (fun r => r = u)) := by
        intro x0 x1 x2 x3 h
        unfold mX11_elect_b74
        refine j_iinc (q := 77) (l2 := [(0, vR x.2.2.2 x0), (1, .int x1), (2, .int x2)]) hx (dc kX11_elect_0 39 rfl) 3 rfl (v := (1 : Int32)) (by decide) (hn 3 (by decide)) [0, 1, 2] rfl ⟨⟨show (0 : Nat) ≠ 3 by decide, Or.inl (show (0 : Nat) + 1 ≠ 3 by decide)⟩, ⟨⟨show (1 : Nat) ≠ 3 by decide, Or.inl (show (1 : Nat) + 1 ≠ 3 by decide)⟩, ⟨⟨show (2 : Nat) ≠ 3 by decide, Or.inr rfl⟩, trivial⟩⟩⟩ rfl ?_
        refine j_goto (q := 19) hx (dc kX11_elect_0 40 rfl) (by decide) ?_
        exact j_back [1, 2, 3, 0] (x2, (x3 + (1 : Int32))) rfl rfl
      have hb71 : ∀ (x0 : Nat) (x1 : Int32) (x3 : Int32) (x4 : Int32) (h : Hp), J x 71 [(0, vR x.2.2.2 x0), (1, .int x1), (3, .int x3), (4, .int x4)] [] h (mX11_elect_b71 x0 x1 x3 x4 h) (TLo (S := (Int32 × Int32)) x 19 (fun s => [(0, vR x.2.2.2 x0), (1, .int x1), (2, .int s.1), (3, .int s.2)]) [] (fun s => h) (fun r => r = u)) := by
        intro x0 x1 x3 x4 h
        unfold mX11_elect_b71
        refine j_iload (q := 73) hx (dc kX11_elect_0 37 rfl) 3 rfl rfl ?_
        refine j_istore_n (q := 74) (i := 2) (l2 := [(0, vR x.2.2.2 x0), (1, .int x1), (3, .int x3)]) hx (dc kX11_elect_0 38 rfl) rfl (hn 2 (by decide)) [0, 1, 2] rfl ⟨⟨show (0 : Nat) ≠ 2 by decide, Or.inl (show (0 : Nat) + 1 ≠ 2 by decide)⟩, ⟨⟨show (1 : Nat) ≠ 2 by decide, Or.inr rfl⟩, ⟨⟨show (3 : Nat) ≠ 2 by decide, Or.inl (show (3 : Nat) + 1 ≠ 2 by decide)⟩, trivial⟩⟩⟩ rfl ?_
        exact j_sub [1, 2, 0, 3] rfl (hb74 x0 x1 x4 x3 h)
      unfold mX11_elect_l19f
      refine j_iload_n (q := 20) hx (dc kX11_elect_0 13 rfl) rfl 3 rfl rfl ?_
      refine j_aload_n (q := 21) hx (dc kX11_elect_0 14 rfl) rfl 0 rfl rfl ?_
      refine w_gR (q := 24) hx (dc kX11_elect_0 15 rfl) ff_X11_14 lk_X11_96 rfl (fun v3 => ?_)
      refine w_gI (q := 27) hx (dc kX11_elect_0 16 rfl) ff_X6_5 lk_X11_360 rfl (fun v4 => ?_)
      refine j_icmp_geS (q := 30) (tgt := 80) hx (dc kX11_elect_0 17 rfl) (by decide) rfl ?_ ?_
      · refine j_exit ?_
        refine j_iload_n (q := 81) hx (dc kX11_elect_0 41 rfl) rfl 1 rfl rfl ?_
        refine j_if_neS (q := 84) (tgt := 91) hx (dc kX11_elect_0 42 rfl) (by decide) rfl ?_ ?_
        · refine j_iload_n (q := 92) hx (dc kX11_elect_0 46 rfl) rfl 2 rfl rfl ?_
          exact r_iW hx hR (dc kX11_elect_0 47 rfl)
        · refine j_iload_n (q := 85) hx (dc kX11_elect_0 43 rfl) rfl 2 rfl rfl ?_
          refine w_cSIR (q := 88) (As := [.int x2]) (st := []) hx (dc kX11_elect_0 44 rfl) (cI _ my_J6_bitCount_0f7a4 lm_X11_252 (by decide)) st_J6_bitCount_0f7a4 rfl (fun u hu => sJ6_bitCount_0f7a4 _ _ _ _ _ hu) (Nat.zero_le _) rfl (fun v5 => ?_)
          refine j_goto (q := 92) hx (dc kX11_elect_0 45 rfl) (by decide) ?_
          exact r_iW hx hR (dc kX11_elect_0 47 rfl)
      · refine j_aload_n (q := 31) hx (dc kX11_elect_0 18 rfl) rfl 0 rfl rfl ?_
        refine w_gR (q := 34) hx (dc kX11_elect_0 19 rfl) ff_X11_14 lk_X11_96 rfl (fun v7 => ?_)
        refine w_gR (q := 37) hx (dc kX11_elect_0 20 rfl) ff_X6_0 lk_X11_361 rfl (fun v8 => ?_)
        refine j_iload_n (q := 38) hx (dc kX11_elect_0 21 rfl) rfl 3 rfl rfl ?_
        refine w_cSIR (q := 41) (As := [vR x.2.2.2 v8, .int x3]) (st := []) hx (dc kX11_elect_0 22 rfl) (cI _ my_X11_at lm_X11_152 (by decide)) st_X11_at rfl (fun u hu => sX11_at _ _ _ _ _ _ hu) (Nat.zero_le _) rfl (fun v9 => ?_)
        refine j_istore (q := 43) (i := 4) (l2 := [(0, vR x.2.2.2 x0), (1, .int x1), (2, .int x2), (3, .int x3)]) hx (dc kX11_elect_0 23 rfl) (hn 4 (by decide)) [0, 1, 2, 3] rfl ⟨⟨show (0 : Nat) ≠ 4 by decide, Or.inl (show (0 : Nat) + 1 ≠ 4 by decide)⟩, ⟨⟨show (1 : Nat) ≠ 4 by decide, Or.inl (show (1 : Nat) + 1 ≠ 4 by decide)⟩, ⟨⟨show (2 : Nat) ≠ 4 by decide, Or.inl (show (2 : Nat) + 1 ≠ 4 by decide)⟩, ⟨⟨show (3 : Nat) ≠ 4 by decide, Or.inr rfl⟩, trivial⟩⟩⟩⟩ rfl ?_
        refine j_iload (q := 45) hx (dc kX11_elect_0 24 rfl) 0 rfl rfl ?_
        refine w_cSIR (q := 48) (As := [.int v9]) (st := []) hx (dc kX11_elect_0 25 rfl) (cI _ my_J6_bitCount_0f7a4 lm_X11_252 (by decide)) st_J6_bitCount_0f7a4 rfl (fun u hu => sJ6_bitCount_0f7a4 _ _ _ _ _ hu) (Nat.zero_le _) rfl (fun v11 => ?_)
        refine j_iload_n (q := 49) hx (dc kX11_elect_0 26 rfl) rfl 3 rfl rfl ?_
        refine w_cSIR (q := 52) (As := [.int x2]) (st := [.int v11]) hx (dc kX11_elect_0 27 rfl) (cI _ my_J6_bitCount_0f7a4 lm_X11_252 (by decide)) st_J6_bitCount_0f7a4 rfl (fun u hu => sJ6_bitCount_0f7a4 _ _ _ _ _ hu) (sum_le (sum_I sum_nil) (by decide)) rfl (fun v13 => ?_)
        refine j_isub (q := 53) hx (dc kX11_elect_0 28 rfl) rfl ?_
        refine j_istore (q := 55) (i := 5) (l2 := [(4, .int v9), (0, vR x.2.2.2 x0), (1, .int x1), (2, .int x2), (3, .int x3)]) hx (dc kX11_elect_0 29 rfl) (hn 5 (by decide)) [0, 1, 2, 3, 4] rfl ⟨⟨show (4 : Nat) ≠ 5 by decide, Or.inr rfl⟩, ⟨⟨show (0 : Nat) ≠ 5 by decide, Or.inl (show (0 : Nat) + 1 ≠ 5 by decide)⟩, ⟨⟨show (1 : Nat) ≠ 5 by decide, Or.inl (show (1 : Nat) + 1 ≠ 5 by decide)⟩, ⟨⟨show (2 : Nat) ≠ 5 by decide, Or.inl (show (2 : Nat) + 1 ≠ 5 by decide)⟩, ⟨⟨show (3 : Nat) ≠ 5 by decide, Or.inl (show (3 : Nat) + 1 ≠ 5 by decide)⟩, trivial⟩⟩⟩⟩⟩ rfl ?_
        refine j_iload (q := 57) hx (dc kX11_elect_0 30 rfl) 0 rfl rfl ?_
        refine j_if_gt (q := 60) (tgt := 71) hx (dc kX11_elect_0 31 rfl) (by decide) Iff.rfl rfl ?_ ?_
        · exact j_sub [2, 3, 5, 1] rfl (hb71 x0 x1 x3 v9 h)
        · refine j_iload (q := 62) hx (dc kX11_elect_0 32 rfl) 0 rfl rfl ?_
          refine j_if_neS (q := 65) (tgt := 74) hx (dc kX11_elect_0 33 rfl) (by decide) rfl ?_ ?_
          · exact j_sub [2, 3, 4, 5] rfl (hb74 x0 x1 x2 x3 h)
          · refine j_iload (q := 67) hx (dc kX11_elect_0 34 rfl) 1 rfl rfl ?_
            refine j_iload_n (q := 68) hx (dc kX11_elect_0 35 rfl) rfl 4 rfl rfl ?_
            refine j_icmp_geS (q := 71) (tgt := 74) hx (dc kX11_elect_0 36 rfl) (by decide) rfl ?_ ?_
            · exact j_sub [2, 3, 4, 5] rfl (hb74 x0 x1 x2 x3 h)
            · exact j_sub [2, 3, 5, 1] rfl (hb71 x0 x1 x3 v9 h)
    exact j_loop (S := (Int32 × Int32)) (lvf := fun s => [(0, vR x.2.2.2 x0), (1, .int x1), (2, .int s.1), (3, .int s.2)]) (hpf := fun s => h) (f := (fun s : (Int32 × Int32) => mX11_elect_l19f x0 x1 h s.1 s.2)) (fun s => hB s.1 s.2) (x2, x3)
  unfold mX11_elect
  refine J.ckd fun hck => ?_
  refine j_iload_n (q := 1) hx (dc kX11_elect_0 0 rfl) rfl 1 rfl rfl ?_
  refine j_if_lt (q := 4) (tgt := 9) hx (dc kX11_elect_0 1 rfl) (by decide) Iff.rfl rfl ?_ ?_
  · refine j_iconst (q := 10) (v := (-1 : Int32)) hx (dc kX11_elect_0 5 rfl) (by decide) rfl ?_
    exact r_iW hx hR (dc kX11_elect_0 6 rfl)
  · refine j_iload_n (q := 5) hx (dc kX11_elect_0 2 rfl) rfl 1 rfl rfl ?_
    refine j_iconst (q := 6) (v := (1 : Int32)) hx (dc kX11_elect_0 3 rfl) (by decide) rfl ?_
    refine j_icmp_leS (q := 9) (tgt := 11) hx (dc kX11_elect_0 4 rfl) (by decide) rfl ?_ ?_
    · refine j_aload_n (q := 12) hx (dc kX11_elect_0 7 rfl) rfl 0 rfl rfl ?_
      refine w_cVVW (q := 15) (As := []) (st := []) hx (dc kX11_elect_0 8 rfl) cf11 (by decide) rfl (cI _ my_X11_survey lm_X11_356 (by decide)) vs_X11_survey rfl (fun u hu => sX11_survey _ _ _ _ _ hu) (fun e => ite_ne (by unfold mX11_survey at e; exact e)) (Nat.zero_le _) rfl (fun h2 => ?_)
      refine j_iconst (q := 16) (v := (0 : Int32)) hx (dc kX11_elect_0 9 rfl) (by decide) rfl ?_
      refine j_istore_n (q := 17) (i := 2) (l2 := [(0, vR x.2.2.2 x0), (1, .int x1)]) hx (dc kX11_elect_0 10 rfl) rfl (hn 2 (by decide)) [0, 1] rfl ⟨⟨show (0 : Nat) ≠ 2 by decide, Or.inl (show (0 : Nat) + 1 ≠ 2 by decide)⟩, ⟨⟨show (1 : Nat) ≠ 2 by decide, Or.inr rfl⟩, trivial⟩⟩ rfl ?_
      refine j_iconst (q := 18) (v := (0 : Int32)) hx (dc kX11_elect_0 11 rfl) (by decide) rfl ?_
      refine j_istore_n (q := 19) (i := 3) (l2 := [(2, .int (0 : Int32)), (0, vR x.2.2.2 x0), (1, .int x1)]) hx (dc kX11_elect_0 12 rfl) rfl (hn 3 (by decide)) [0, 1, 2] rfl ⟨⟨show (2 : Nat) ≠ 3 by decide, Or.inr rfl⟩, ⟨⟨show (0 : Nat) ≠ 3 by decide, Or.inl (show (0 : Nat) + 1 ≠ 3 by decide)⟩, ⟨⟨show (1 : Nat) ≠ 3 by decide, Or.inl (show (1 : Nat) + 1 ≠ 3 by decide)⟩, trivial⟩⟩⟩ rfl ?_
      exact j_sub [2, 3, 1, 0] rfl (hb19 x0 x1 (0 : Int32) (0 : Int32) h2)
    · refine j_iconst (q := 10) (v := (-1 : Int32)) hx (dc kX11_elect_0 5 rfl) (by decide) rfl ?_
      exact r_iW hx hR (dc kX11_elect_0 6 rfl)

set_option maxHeartbeats 4000000 in
set_option maxRecDepth 100000 in
theorem sX11_ask (l : Launch) (w : Wd) (x0 : Nat) (h : Hp) (u : (Int32 × Hp)) (hK : mX11_ask x0 h = some u) : M1 l w mi_X11_ask 45 [vR w x0] h u.2 (some (.int u.1)) := by
  refine M1.of (own := RX11) (T := fun _ r => r = u) hK (by decide +kernel) rfl (by first | (simp only [lg_lenR, lg_lenI, lg_lenL, lg_len0]; decide) | decide) (fun x hx hnl hhf hl hw hret hnm hQ h0e => ⟨?_, rfl⟩)
  subst hw
  subst hl
  have hR : Rt x h u.2 (some (.int u.1)) ((some .int)) := ⟨h0e, hhf, hret, hQ⟩
  have hn : ∀ i, i < 9 → i < x.2.2.1.1.1 := fun i hi => by rw [hnl]; exact hi
  have e0 : lv_args 0 [vR x.2.2.2 x0] = [(0, vR x.2.2.2 x0)] := by simp only [lv_argsR, lv_argsI, lv_argsL, lv_args0]
  rw [e0]
  unfold mX11_ask
  refine J.ckd fun hck => ?_
  refine j_aload_n (q := 1) hx (dc kX11_ask_0 0 rfl) rfl 0 rfl rfl ?_
  refine w_gR (q := 4) hx (dc kX11_ask_0 1 rfl) ff_X11_1 lk_X11_19 rfl (fun v1 => ?_)
  refine j_aload_n (q := 5) hx (dc kX11_ask_0 2 rfl) rfl 0 rfl rfl ?_
  refine w_gR (q := 8) hx (dc kX11_ask_0 3 rfl) ff_X11_0 lk_X11_10 rfl (fun v2 => ?_)
  refine w_cVVW (q := 11) (As := [vR x.2.2.2 v2]) (st := []) hx (dc kX11_ask_0 4 rfl) cf8 (by decide) rfl (cI _ my_X8_split lm_X11_122 (by decide)) vs_X8_split rfl (fun u hu => sX8_split _ _ _ _ _ _ hu) (fun e => ite_ne (by unfold mX8_split at e; exact e)) (Nat.zero_le _) rfl (fun h4 => ?_)
  refine j_aload_n (q := 12) hx (dc kX11_ask_0 5 rfl) rfl 0 rfl rfl ?_
  refine w_gR (q := 15) hx (dc kX11_ask_0 6 rfl) ff_X11_0 lk_X11_10 rfl (fun v5 => ?_)
  refine j_iconst (q := 16) (v := (0 : Int32)) hx (dc kX11_ask_0 7 rfl) (by decide) rfl ?_
  refine w_sI (q := 19) hx (dc kX11_ask_0 8 rfl) ff_X7_1 rfl lk_X11_115 (Or.inl rfl) rfl (fun h6 => ?_)
  refine j_aload_n (q := 20) hx (dc kX11_ask_0 9 rfl) rfl 0 rfl rfl ?_
  refine w_gR (q := 23) hx (dc kX11_ask_0 10 rfl) ff_X11_3 lk_X11_33 rfl (fun v7 => ?_)
  refine w_gI (q := 26) hx (dc kX11_ask_0 11 rfl) ff_X1_13 lk_X11_398 rfl (fun v8 => ?_)
  refine j_istore_n (q := 27) (i := 1) (l2 := [(0, vR x.2.2.2 x0)]) hx (dc kX11_ask_0 12 rfl) rfl (hn 1 (by decide)) [0] rfl ⟨⟨show (0 : Nat) ≠ 1 by decide, Or.inr (vR_cat _ _)⟩, trivial⟩ rfl ?_
  refine j_aload_n (q := 28) hx (dc kX11_ask_0 13 rfl) rfl 1 rfl rfl ?_
  refine w_gR (q := 31) hx (dc kX11_ask_0 14 rfl) ff_X11_7 lk_X11_55 rfl (fun v9 => ?_)
  refine j_aload_n (q := 32) hx (dc kX11_ask_0 15 rfl) rfl 1 rfl rfl ?_
  refine w_gR (q := 35) hx (dc kX11_ask_0 16 rfl) ff_X11_3 lk_X11_33 rfl (fun v10 => ?_)
  refine w_cVIW (q := 38) (As := [vR x.2.2.2 v10]) (st := []) hx (dc kX11_ask_0 17 rfl) cf2 (by decide) rfl (cI _ my_X2_readQuestion lm_X11_399 (by decide)) vs_X2_readQuestion rfl (fun u hu => sX2_readQuestion _ _ _ _ _ _ hu) (fun e => ite_ne (by unfold mX2_readQuestion at e; exact e)) (Nat.zero_le _) rfl (fun v11 h12 => ?_)
  refine j_istore_n (q := 39) (i := 2) (l2 := [(1, .int v8), (0, vR x.2.2.2 x0)]) hx (dc kX11_ask_0 18 rfl) rfl (hn 2 (by decide)) [0, 1] rfl ⟨⟨show (1 : Nat) ≠ 2 by decide, Or.inr rfl⟩, ⟨⟨show (0 : Nat) ≠ 2 by decide, Or.inl (show (0 : Nat) + 1 ≠ 2 by decide)⟩, trivial⟩⟩ rfl ?_
  refine j_aload_n (q := 40) hx (dc kX11_ask_0 19 rfl) rfl 2 rfl rfl ?_
  refine w_gR (q := 43) hx (dc kX11_ask_0 20 rfl) ff_X11_3 lk_X11_33 rfl (fun v13 => ?_)
  refine w_gI (q := 46) hx (dc kX11_ask_0 21 rfl) ff_X1_13 lk_X11_398 rfl (fun v14 => ?_)
  refine j_istore_n (q := 47) (i := 3) (l2 := [(2, .int v11), (1, .int v8), (0, vR x.2.2.2 x0)]) hx (dc kX11_ask_0 22 rfl) rfl (hn 3 (by decide)) [0, 1, 2] rfl ⟨⟨show (2 : Nat) ≠ 3 by decide, Or.inr rfl⟩, ⟨⟨show (1 : Nat) ≠ 3 by decide, Or.inl (show (1 : Nat) + 1 ≠ 3 by decide)⟩, ⟨⟨show (0 : Nat) ≠ 3 by decide, Or.inl (show (0 : Nat) + 1 ≠ 3 by decide)⟩, trivial⟩⟩⟩ rfl ?_
  refine j_aload_n (q := 48) hx (dc kX11_ask_0 23 rfl) rfl 3 rfl rfl ?_
  refine w_gR (q := 51) hx (dc kX11_ask_0 24 rfl) ff_X11_3 lk_X11_33 rfl (fun v15 => ?_)
  refine j_iload_n (q := 52) hx (dc kX11_ask_0 25 rfl) rfl 2 rfl rfl ?_
  refine w_sI (q := 55) hx (dc kX11_ask_0 26 rfl) ff_X1_13 rfl lk_X11_398 (Or.inl rfl) rfl (fun h16 => ?_)
  refine j_iload_n (q := 56) hx (dc kX11_ask_0 27 rfl) rfl 1 rfl rfl ?_
  refine j_if_neS (q := 59) (tgt := 61) hx (dc kX11_ask_0 28 rfl) (by decide) rfl ?_ ?_
  · refine j_aload_n (q := 62) hx (dc kX11_ask_0 31 rfl) rfl 3 rfl rfl ?_
    refine w_cVVW (q := 65) (As := []) (st := []) hx (dc kX11_ask_0 32 rfl) cf11 (by decide) rfl (cI _ my_X11_remember lm_X11_204 (by decide)) vs_X11_remember rfl (fun u hu => sX11_remember _ _ _ _ _ hu) (fun e => ite_ne (by unfold mX11_remember at e; exact e)) (Nat.zero_le _) rfl (fun h18 => ?_)
    refine j_aload_n (q := 66) hx (dc kX11_ask_0 33 rfl) rfl 3 rfl rfl ?_
    refine w_gR (q := 69) hx (dc kX11_ask_0 34 rfl) ff_X11_2 lk_X11_26 rfl (fun v19 => ?_)
    refine j_aload_n (q := 70) hx (dc kX11_ask_0 35 rfl) rfl 3 rfl rfl ?_
    refine w_gR (q := 73) hx (dc kX11_ask_0 36 rfl) ff_X11_3 lk_X11_33 rfl (fun v20 => ?_)
    refine w_gR (q := 76) hx (dc kX11_ask_0 37 rfl) ff_X1_12 lk_X11_403 rfl (fun v21 => ?_)
    refine j_iload_n (q := 77) hx (dc kX11_ask_0 38 rfl) rfl 2 rfl rfl ?_
    refine j_iload_n (q := 78) hx (dc kX11_ask_0 39 rfl) rfl 0 rfl rfl ?_
    refine j_aload_n (q := 79) hx (dc kX11_ask_0 40 rfl) rfl 3 rfl rfl ?_
    refine w_gR (q := 82) hx (dc kX11_ask_0 41 rfl) ff_X11_11 lk_X11_76 rfl (fun v22 => ?_)
    refine w_cVVW (q := 85) (As := [vR x.2.2.2 v21, .int v8, .int v14, vR x.2.2.2 v22]) (st := []) hx (dc kX11_ask_0 42 rfl) cf4 (by decide) rfl (cI _ my_X4_tabulate lm_X11_406 (by decide)) vs_X4_tabulate rfl (fun u hu => sX4_tabulate _ _ _ _ _ _ _ _ _ hu) (fun e => ite_ne (by unfold mX4_tabulate at e; exact e)) (Nat.zero_le _) rfl (fun h24 => ?_)
    refine j_aload_n (q := 86) hx (dc kX11_ask_0 43 rfl) rfl 3 rfl rfl ?_
    refine w_gR (q := 89) hx (dc kX11_ask_0 44 rfl) ff_X11_9 lk_X11_69 rfl (fun v25 => ?_)
    refine j_aload_n (q := 90) hx (dc kX11_ask_0 45 rfl) rfl 3 rfl rfl ?_
    refine w_gR (q := 93) hx (dc kX11_ask_0 46 rfl) ff_X11_11 lk_X11_76 rfl (fun v26 => ?_)
    refine w_cVIR (q := 96) (As := [vR x.2.2.2 v26]) (st := []) hx (dc kX11_ask_0 47 rfl) cf10 (by decide) rfl (cI _ my_X10_howIn lm_X11_332 (by decide)) vs_X10_howIn rfl (fun u hu => sX10_howIn _ _ _ _ _ _ hu) (fun e => ite_ne (by unfold mX10_howIn at e; exact e)) (Nat.zero_le _) rfl (fun v27 => ?_)
    refine j_istore (q := 98) (i := 4) (l2 := [(0, vR x.2.2.2 x0)]) hx (dc kX11_ask_0 48 rfl) (hn 4 (by decide)) [3] rfl ⟨⟨show (0 : Nat) ≠ 4 by decide, Or.inl (show (0 : Nat) + 1 ≠ 4 by decide)⟩, trivial⟩ rfl ?_
    refine j_aload_n (q := 99) hx (dc kX11_ask_0 49 rfl) rfl 1 rfl rfl ?_
    refine w_gR (q := 102) hx (dc kX11_ask_0 50 rfl) ff_X11_3 lk_X11_33 rfl (fun v29 => ?_)
    refine j_aload_n (q := 103) hx (dc kX11_ask_0 51 rfl) rfl 1 rfl rfl ?_
    refine w_gR (q := 106) hx (dc kX11_ask_0 52 rfl) ff_X11_9 lk_X11_69 rfl (fun v30 => ?_)
    refine w_cVJR (q := 109) (As := [vR x.2.2.2 v30]) (st := []) hx (dc kX11_ask_0 53 rfl) cf1 (by decide) rfl (cI _ my_X1_weigh lm_X11_348 (by decide)) vs_X1_weigh rfl (fun u hu => sX1_weigh _ _ _ _ _ _ hu) (fun e => ite_ne (by unfold mX1_weigh at e; exact e)) (Nat.zero_le _) rfl (fun v31 => ?_)
    refine j_lstore (q := 111) (i := 5) (l2 := [(4, .int v27), (0, vR x.2.2.2 x0)]) hx (dc kX11_ask_0 54 rfl) (hn 6 (by decide)) [0, 1] rfl ⟨⟨show (4 : Nat) ≠ 5 by decide, Or.inr rfl⟩, ⟨⟨show (0 : Nat) ≠ 5 by decide, Or.inl (show (0 : Nat) + 1 ≠ 5 by decide)⟩, trivial⟩⟩ (by simp) rfl ?_
    refine j_aload_n (q := 112) hx (dc kX11_ask_0 55 rfl) rfl 2 rfl rfl ?_
    refine w_gR (q := 115) hx (dc kX11_ask_0 56 rfl) ff_X11_9 lk_X11_69 rfl (fun v33 => ?_)
    refine j_aload_n (q := 116) hx (dc kX11_ask_0 57 rfl) rfl 2 rfl rfl ?_
    refine w_gR (q := 119) hx (dc kX11_ask_0 58 rfl) ff_X11_11 lk_X11_76 rfl (fun v34 => ?_)
    refine w_cVVW (q := 122) (As := [vR x.2.2.2 v34]) (st := []) hx (dc kX11_ask_0 59 rfl) cf10 (by decide) rfl (cI _ my_X10_and lm_X11_308 (by decide)) vs_X10_and rfl (fun u hu => sX10_and _ _ _ _ _ _ hu) (fun e => ite_ne (by unfold mX10_and at e; exact e)) (Nat.zero_le _) rfl (fun h36 => ?_)
    refine j_aload_n (q := 123) hx (dc kX11_ask_0 60 rfl) rfl 2 rfl rfl ?_
    refine w_gR (q := 126) hx (dc kX11_ask_0 61 rfl) ff_X11_3 lk_X11_33 rfl (fun v37 => ?_)
    refine j_aload_n (q := 127) hx (dc kX11_ask_0 62 rfl) rfl 2 rfl rfl ?_
    refine w_gR (q := 130) hx (dc kX11_ask_0 63 rfl) ff_X11_9 lk_X11_69 rfl (fun v38 => ?_)
    refine w_cVJR (q := 133) (As := [vR x.2.2.2 v38]) (st := []) hx (dc kX11_ask_1 0 rfl) cf1 (by decide) rfl (cI _ my_X1_weigh lm_X11_348 (by decide)) vs_X1_weigh rfl (fun u hu => sX1_weigh _ _ _ _ _ _ hu) (fun e => ite_ne (by unfold mX1_weigh at e; exact e)) (Nat.zero_le _) rfl (fun v39 => ?_)
    refine j_lstore (q := 135) (i := 7) (l2 := [(5, .long v31), (4, .int v27), (0, vR x.2.2.2 x0)]) hx (dc kX11_ask_1 1 rfl) (hn 8 (by decide)) [0, 1, 2] rfl ⟨⟨show (5 : Nat) ≠ 7 by decide, Or.inl (show (5 : Nat) + 1 ≠ 7 by decide)⟩, ⟨⟨show (4 : Nat) ≠ 7 by decide, Or.inl (show (4 : Nat) + 1 ≠ 7 by decide)⟩, ⟨⟨show (0 : Nat) ≠ 7 by decide, Or.inl (show (0 : Nat) + 1 ≠ 7 by decide)⟩, trivial⟩⟩⟩ (by simp) rfl ?_
    refine j_aload_n (q := 136) hx (dc kX11_ask_1 2 rfl) rfl 3 rfl rfl ?_
    refine j_lload (q := 138) hx (dc kX11_ask_1 3 rfl) 0 rfl rfl ?_
    refine j_lload (q := 140) hx (dc kX11_ask_1 4 rfl) 1 rfl rfl ?_
    refine j_iconst (q := 141) (v := (0 : Int32)) hx (dc kX11_ask_1 5 rfl) (by decide) rfl ?_
    refine w_cSJR (q := 144) (As := [.long v39, .long v31, .int (0 : Int32)]) (st := [vR x.2.2.2 x0]) hx (dc kX11_ask_1 6 rfl) (cI _ my_X11_inLowestTerms lm_X11_352 (by decide)) st_X11_inLowestTerms rfl (fun u hu => sX11_inLowestTerms _ _ _ _ _ _ _ hu) (sum_le (sum_R sum_nil) (by decide)) rfl (fun v41 => ?_)
    refine w_sL (q := 147) hx (dc kX11_ask_1 7 rfl) ff_X11_16 rfl lk_X11_410 (Or.inl rfl) rfl (fun h43 => ?_)
    refine j_aload_n (q := 148) hx (dc kX11_ask_1 8 rfl) rfl 3 rfl rfl ?_
    refine j_lload (q := 150) hx (dc kX11_ask_1 9 rfl) 0 rfl rfl ?_
    refine j_lload (q := 152) hx (dc kX11_ask_1 10 rfl) 1 rfl rfl ?_
    refine j_iconst (q := 153) (v := (1 : Int32)) hx (dc kX11_ask_1 11 rfl) (by decide) rfl ?_
    refine w_cSJR (q := 156) (As := [.long v39, .long v31, .int (1 : Int32)]) (st := [vR x.2.2.2 x0]) hx (dc kX11_ask_1 12 rfl) (cI _ my_X11_inLowestTerms lm_X11_352 (by decide)) st_X11_inLowestTerms rfl (fun u hu => sX11_inLowestTerms _ _ _ _ _ _ _ hu) (sum_le (sum_R sum_nil) (by decide)) rfl (fun v44 => ?_)
    refine w_sL (q := 159) hx (dc kX11_ask_1 13 rfl) ff_X11_17 rfl lk_X11_133 (Or.inl rfl) rfl (fun h46 => ?_)
    refine j_iload (q := 161) hx (dc kX11_ask_1 14 rfl) 2 rfl rfl ?_
    exact r_iW hx hR (dc kX11_ask_1 15 rfl)
  · refine j_iconst (q := 60) (v := (-1 : Int32)) hx (dc kX11_ask_0 29 rfl) (by decide) rfl ?_
    exact r_iW hx hR (dc kX11_ask_0 30 rfl)

set_option maxHeartbeats 4000000 in
set_option maxRecDepth 100000 in
theorem sX11_asked (l : Launch) (w : Wd) (x0 : Nat) (x1 : Int32) (h : Hp) (u : Int32) (hK : mX11_asked x0 x1 h = some u) : M1 l w mi_X11_asked 1 [vR w x0, .int x1] h h (some (.int u)) := by
  refine M1.of (own := RX11) (T := fun _ r => r = u) hK (by decide +kernel) rfl (by first | (simp only [lg_lenR, lg_lenI, lg_lenL, lg_len0]; decide) | decide) (fun x hx hnl hhf hl hw hret hnm hQ h0e => ⟨?_, rfl⟩)
  subst hw
  subst hl
  have hR : Rt x h h (some (.int u)) ((some .int)) := ⟨h0e, hhf, hret, hQ⟩
  have hn : ∀ i, i < 2 → i < x.2.2.1.1.1 := fun i hi => by rw [hnl]; exact hi
  have e0 : lv_args 0 [vR x.2.2.2 x0, .int x1] = [(0, vR x.2.2.2 x0), (1, .int x1)] := by simp only [lv_argsR, lv_argsI, lv_argsL, lv_args0]
  rw [e0]
  have hb35 : ∀ (t0 : Int64), J x 35 [] [.long t0] h (mX11_asked_b35 t0 h) (fun r => r = u) := by
    intro t0
    unfold mX11_asked_b35
    refine j_l2i (q := 36) hx (dc kX11_asked_0 19 rfl) rfl ?_
    exact r_iR hx hR (dc kX11_asked_0 20 rfl)
  unfold mX11_asked
  refine J.ckd fun hck => ?_
  refine j_iload_n (q := 1) hx (dc kX11_asked_0 0 rfl) rfl 1 rfl rfl ?_
  refine j_if_lt (q := 4) (tgt := 18) hx (dc kX11_asked_0 1 rfl) (by decide) Iff.rfl rfl ?_ ?_
  · refine j_iconst (q := 19) (v := (-1 : Int32)) hx (dc kX11_asked_0 10 rfl) (by decide) rfl ?_
    exact r_iR hx hR (dc kX11_asked_0 11 rfl)
  · refine j_iload_n (q := 5) hx (dc kX11_asked_0 2 rfl) rfl 1 rfl rfl ?_
    refine j_iconst (q := 6) (v := (1 : Int32)) hx (dc kX11_asked_0 3 rfl) (by decide) rfl ?_
    refine j_icmp_gt (q := 9) (tgt := 18) hx (dc kX11_asked_0 4 rfl) (by decide) Iff.rfl rfl ?_ ?_
    · refine j_iconst (q := 19) (v := (-1 : Int32)) hx (dc kX11_asked_0 10 rfl) (by decide) rfl ?_
      exact r_iR hx hR (dc kX11_asked_0 11 rfl)
    · refine j_aload_n (q := 10) hx (dc kX11_asked_0 5 rfl) rfl 0 rfl rfl ?_
      refine w_gL (q := 13) hx (dc kX11_asked_0 6 rfl) ff_X11_17 lk_X11_133 rfl (fun v1 => ?_)
      refine j_lconst (q := 14) (v := (0 : Int64)) hx (dc kX11_asked_0 7 rfl) (by decide) rfl ?_
      refine j_lcmp (q := 15) hx (dc kX11_asked_0 8 rfl) rfl ?_
      refine j_if_neS (q := 18) (tgt := 20) hx (dc kX11_asked_0 9 rfl) (by decide) rfl ?_ ?_
      · refine j_iload_n (q := 21) hx (dc kX11_asked_0 12 rfl) rfl 1 rfl rfl ?_
        refine j_if_neS (q := 24) (tgt := 31) hx (dc kX11_asked_0 13 rfl) (by decide) rfl ?_ ?_
        · refine j_aload_n (q := 32) hx (dc kX11_asked_0 17 rfl) rfl 0 rfl rfl ?_
          refine w_gL (q := 35) hx (dc kX11_asked_0 18 rfl) ff_X11_17 lk_X11_133 rfl (fun v2 => ?_)
          exact j_sub [] rfl (hb35 v2)
        · refine j_aload_n (q := 25) hx (dc kX11_asked_0 14 rfl) rfl 0 rfl rfl ?_
          refine w_gL (q := 28) hx (dc kX11_asked_0 15 rfl) ff_X11_16 lk_X11_410 rfl (fun v3 => ?_)
          refine j_goto (q := 35) hx (dc kX11_asked_0 16 rfl) (by decide) ?_
          exact j_sub [] rfl (hb35 v3)
      · refine j_iconst (q := 19) (v := (-1 : Int32)) hx (dc kX11_asked_0 10 rfl) (by decide) rfl ?_
        exact r_iR hx hR (dc kX11_asked_0 11 rfl)

set_option maxHeartbeats 4000000 in
set_option maxRecDepth 100000 in
theorem sX11_count (l : Launch) (w : Wd) (x0 : Nat) (x1 : Int32) (h : Hp) (u : (Int32 × Hp)) (hK : mX11_count x0 x1 h = some u) : M1 l w mi_X11_count 7 [vR w x0, .int x1] h u.2 (some (.int u.1)) := by
  refine M1.of (own := RX11) (T := fun _ r => r = u) hK (by decide +kernel) rfl (by first | (simp only [lg_lenR, lg_lenI, lg_lenL, lg_len0]; decide) | decide) (fun x hx hnl hhf hl hw hret hnm hQ h0e => ⟨?_, rfl⟩)
  subst hw
  subst hl
  have hR : Rt x h u.2 (some (.int u.1)) ((some .int)) := ⟨h0e, hhf, hret, hQ⟩
  have hn : ∀ i, i < 2 → i < x.2.2.1.1.1 := fun i hi => by rw [hnl]; exact hi
  have e0 : lv_args 0 [vR x.2.2.2 x0, .int x1] = [(0, vR x.2.2.2 x0), (1, .int x1)] := by simp only [lv_argsR, lv_argsI, lv_argsL, lv_args0]
  rw [e0]
  unfold mX11_count
  refine J.ckd fun hck => ?_
  refine j_iload_n (q := 1) hx (dc kX11_count_0 0 rfl) rfl 1 rfl rfl ?_
  refine j_tsw (td := 151) hx (dc kX11_count_0 1 rfl) (by decide) (by decide) ?_ ?_
  · refine j_iconst (q := 152) (v := (-1 : Int32)) hx (dc kX11_count_0 49 rfl) (by decide) rfl ?_
    exact r_iW hx hR (dc kX11_count_0 50 rfl)
  · refine ⟨⟨56, by decide, ?_⟩, ⟨64, by decide, ?_⟩, ⟨72, by decide, ?_⟩, ⟨80, by decide, ?_⟩, ⟨92, by decide, ?_⟩, ⟨100, by decide, ?_⟩, ⟨116, by decide, ?_⟩, ⟨127, by decide, ?_⟩, ⟨135, by decide, ?_⟩, ⟨143, by decide, ?_⟩, trivial⟩
    · refine j_aload_n (q := 57) hx (dc kX11_count_0 2 rfl) rfl 0 rfl rfl ?_
      refine w_gR (q := 60) hx (dc kX11_count_0 3 rfl) ff_X11_3 lk_X11_33 rfl (fun v1 => ?_)
      refine w_gI (q := 63) hx (dc kX11_count_0 4 rfl) ff_X1_0 lk_X11_137 rfl (fun v2 => ?_)
      exact r_iW hx hR (dc kX11_count_0 5 rfl)
    · refine j_aload_n (q := 65) hx (dc kX11_count_0 6 rfl) rfl 0 rfl rfl ?_
      refine w_gR (q := 68) hx (dc kX11_count_0 7 rfl) ff_X11_3 lk_X11_33 rfl (fun v3 => ?_)
      refine w_gI (q := 71) hx (dc kX11_count_0 8 rfl) ff_X1_1 lk_X11_243 rfl (fun v4 => ?_)
      exact r_iW hx hR (dc kX11_count_0 9 rfl)
    · refine j_aload_n (q := 73) hx (dc kX11_count_0 10 rfl) rfl 0 rfl rfl ?_
      refine w_gR (q := 76) hx (dc kX11_count_0 11 rfl) ff_X11_5 lk_X11_43 rfl (fun v5 => ?_)
      refine w_gI (q := 79) hx (dc kX11_count_0 12 rfl) ff_X5_2 lk_X11_264 rfl (fun v6 => ?_)
      exact r_iW hx hR (dc kX11_count_0 13 rfl)
    · refine j_aload_n (q := 81) hx (dc kX11_count_0 14 rfl) rfl 0 rfl rfl ?_
      refine w_cVVW (q := 84) (As := []) (st := []) hx (dc kX11_count_0 15 rfl) cf11 (by decide) rfl (cI _ my_X11_remember lm_X11_204 (by decide)) vs_X11_remember rfl (fun u hu => sX11_remember _ _ _ _ _ hu) (fun e => ite_ne (by unfold mX11_remember at e; exact e)) (Nat.zero_le _) rfl (fun h8 => ?_)
      refine j_aload_n (q := 85) hx (dc kX11_count_0 16 rfl) rfl 0 rfl rfl ?_
      refine w_cVIW (q := 88) (As := []) (st := []) hx (dc kX11_count_0 17 rfl) cf11 (by decide) rfl (cI _ my_X11_standing lm_X11_413 (by decide)) vs_X11_standing rfl (fun u hu => sX11_standing _ _ _ _ _ hu) (fun e => ite_ne (by unfold mX11_standing at e; exact e)) (Nat.zero_le _) rfl (fun v9 h10 => ?_)
      refine w_cSIR (q := 91) (As := [.int v9]) (st := []) hx (dc kX11_count_0 18 rfl) (cI _ my_J6_bitCount_0f7a4 lm_X11_252 (by decide)) st_J6_bitCount_0f7a4 rfl (fun u hu => sJ6_bitCount_0f7a4 _ _ _ _ _ hu) (Nat.zero_le _) rfl (fun v11 => ?_)
      exact r_iW hx hR (dc kX11_count_0 19 rfl)
    · refine j_aload_n (q := 93) hx (dc kX11_count_0 20 rfl) rfl 0 rfl rfl ?_
      refine w_gR (q := 96) hx (dc kX11_count_0 21 rfl) ff_X11_5 lk_X11_43 rfl (fun v13 => ?_)
      refine w_gI (q := 99) hx (dc kX11_count_0 22 rfl) ff_X5_0 lk_X11_270 rfl (fun v14 => ?_)
      exact r_iW hx hR (dc kX11_count_0 23 rfl)
    · refine j_aload_n (q := 101) hx (dc kX11_count_0 24 rfl) rfl 0 rfl rfl ?_
      refine w_gR (q := 104) hx (dc kX11_count_0 25 rfl) ff_X11_5 lk_X11_43 rfl (fun v15 => ?_)
      refine w_gI (q := 107) hx (dc kX11_count_0 26 rfl) ff_X5_1 lk_X11_224 rfl (fun v16 => ?_)
      refine j_if_eq (q := 110) (tgt := 114) hx (dc kX11_count_0 27 rfl) (by decide) Iff.rfl rfl ?_ ?_
      · refine j_iconst (q := 115) (v := (0 : Int32)) hx (dc kX11_count_0 30 rfl) (by decide) rfl ?_
        exact r_iW hx hR (dc kX11_count_0 31 rfl)
      · refine j_iconst (q := 111) (v := (1 : Int32)) hx (dc kX11_count_0 28 rfl) (by decide) rfl ?_
        refine j_goto (q := 115) hx (dc kX11_count_0 29 rfl) (by decide) ?_
        exact r_iW hx hR (dc kX11_count_0 31 rfl)
    · refine j_aload_n (q := 117) hx (dc kX11_count_0 32 rfl) rfl 0 rfl rfl ?_
      refine w_gR (q := 120) hx (dc kX11_count_0 33 rfl) ff_X11_5 lk_X11_43 rfl (fun v17 => ?_)
      refine w_cVIR (q := 123) (As := []) (st := []) hx (dc kX11_count_0 34 rfl) cf5 (by decide) rfl (cI _ my_X5_known lm_X11_160 (by decide)) vs_X5_known rfl (fun u hu => sX5_known _ _ _ _ _ hu) (fun e => ite_ne (by unfold mX5_known at e; exact e)) (Nat.zero_le _) rfl (fun v18 => ?_)
      refine w_cSIR (q := 126) (As := [.int v18]) (st := []) hx (dc kX11_count_0 35 rfl) (cI _ my_J6_bitCount_0f7a4 lm_X11_252 (by decide)) st_J6_bitCount_0f7a4 rfl (fun u hu => sJ6_bitCount_0f7a4 _ _ _ _ _ hu) (Nat.zero_le _) rfl (fun v20 => ?_)
      exact r_iW hx hR (dc kX11_count_0 36 rfl)
    · refine j_aload_n (q := 128) hx (dc kX11_count_0 37 rfl) rfl 0 rfl rfl ?_
      refine w_gR (q := 131) hx (dc kX11_count_0 38 rfl) ff_X11_8 lk_X11_62 rfl (fun v22 => ?_)
      refine w_gI (q := 134) hx (dc kX11_count_0 39 rfl) ff_X0_4 lk_X11_277 rfl (fun v23 => ?_)
      exact r_iW hx hR (dc kX11_count_0 40 rfl)
    · refine j_aload_n (q := 136) hx (dc kX11_count_0 41 rfl) rfl 0 rfl rfl ?_
      refine w_gR (q := 139) hx (dc kX11_count_0 42 rfl) ff_X11_0 lk_X11_10 rfl (fun v24 => ?_)
      refine w_gI (q := 142) hx (dc kX11_count_0 43 rfl) ff_X7_1 lk_X11_115 rfl (fun v25 => ?_)
      exact r_iW hx hR (dc kX11_count_0 44 rfl)
    · refine j_aload_n (q := 144) hx (dc kX11_count_0 45 rfl) rfl 0 rfl rfl ?_
      refine w_gR (q := 147) hx (dc kX11_count_0 46 rfl) ff_X11_3 lk_X11_33 rfl (fun v26 => ?_)
      refine w_gI (q := 150) hx (dc kX11_count_0 47 rfl) ff_X1_5 lk_X11_416 rfl (fun v27 => ?_)
      exact r_iW hx hR (dc kX11_count_0 48 rfl)

set_option maxHeartbeats 4000000 in
set_option maxRecDepth 100000 in
theorem sX13_init {x0 : Nat} (hvx0 : x0 ≠ 0) (l : Launch) (w : Wd) (x1 : Int32) (x2 : Int32) (x3 : Nat) (h : Hp) (u : Hp) (hK : mX13_init x0 x1 x2 x3 h = some u) : M1 l w mi_X13_init 1 [vR w x0, .int x1, .int x2, vR w x3] h u (none) := by
  refine M1.of (own := RX13) (T := fun _ r => r = u) hK (by decide +kernel) rfl (by first | (simp only [lg_lenR, lg_lenI, lg_lenL, lg_len0]; decide) | decide) (fun x hx hnl hhf hl hw hret hnm hQ h0e => ⟨?_, rfl⟩)
  subst hw
  subst hl
  have hR : Rt x h u (none) (none) := ⟨h0e, hhf, hret, hQ⟩
  have hn : ∀ i, i < 4 → i < x.2.2.1.1.1 := fun i hi => by rw [hnl]; exact hi
  have e0 : lv_args 0 [vR x.2.2.2 x0, .int x1, .int x2, vR x.2.2.2 x3] = [(0, vR x.2.2.2 x0), (1, .int x1), (2, .int x2), (3, vR x.2.2.2 x3)] := by simp only [lv_argsR, lv_argsI, lv_argsL, lv_args0]
  rw [e0]
  unfold mX13_init
  refine j_aload_n (q := 1) hx (dc kX13_init_0 0 rfl) rfl 0 rfl rfl ?_
  refine j_obj (q := 4) hx (dc kX13_init_0 1 rfl) lo_X13_1 hvx0 (by decide) (Nat.zero_le _) rfl ?_
  refine j_aload_n (q := 5) hx (dc kX13_init_0 2 rfl) rfl 0 rfl rfl ?_
  refine j_iload_n (q := 6) hx (dc kX13_init_0 3 rfl) rfl 1 rfl rfl ?_
  refine w_sI (q := 9) hx (dc kX13_init_0 4 rfl) ff_X13_0 rfl lk_X13_7 (Or.inr ⟨hnm, rfl, rfl, lt_X13_7⟩) rfl (fun h1 => ?_)
  refine j_aload_n (q := 10) hx (dc kX13_init_0 5 rfl) rfl 0 rfl rfl ?_
  refine j_iload_n (q := 11) hx (dc kX13_init_0 6 rfl) rfl 2 rfl rfl ?_
  refine w_sI (q := 14) hx (dc kX13_init_0 7 rfl) ff_X13_1 rfl lk_X13_13 (Or.inr ⟨hnm, rfl, rfl, lt_X13_13⟩) rfl (fun h2 => ?_)
  refine j_aload_n (q := 15) hx (dc kX13_init_0 8 rfl) rfl 0 rfl rfl ?_
  refine j_aload_n (q := 16) hx (dc kX13_init_0 9 rfl) rfl 3 rfl rfl ?_
  refine w_sR (q := 19) hx (dc kX13_init_0 10 rfl) ff_X13_2 lk_X13_16 (Or.inr ⟨hnm, rfl, rfl, lt_X13_16⟩) rfl (fun h3 => ?_)
  exact r_vW hx hR (dc kX13_init_0 11 rfl)

set_option maxHeartbeats 4000000 in
set_option maxRecDepth 100000 in
theorem sX13_holds_F (d : Nat) (hd : 0 ≤ d) (g : GTX13_holds) (hg0 : ∀ (l : Launch) (w : Wd) (x0 : Nat) (x1 : Int32) (h : Hp) (u : (Int32 × Hp)), g x0 x1 h = some u → M1 l w mi_X13_holds d [vR w x0, .int x1] h u.2 (some (.int u.1))) (hk0 : ∀ (x0 : Nat) (x1 : Int32) (h : Hp), g x0 x1 h ≠ none → (hpS h x0).1 = 14) (l : Launch) (w : Wd) (x0 : Nat) (x1 : Int32) (h : Hp) (u : (Int32 × Hp)) (hK : mX13_holds_F g x0 x1 h = some u) : M1 l w mi_X13_holds (d + 1) [vR w x0, .int x1] h u.2 (some (.int u.1)) := by
  refine M1.of (own := RX13) (T := fun _ r => r = u) hK (by decide +kernel) rfl (by first | (simp only [lg_lenR, lg_lenI, lg_lenL, lg_len0]; decide) | decide) (fun x hx hnl hhf hl hw hret hnm hQ h0e => ⟨?_, rfl⟩)
  subst hw
  subst hl
  have hR : Rt x h u.2 (some (.int u.1)) ((some .boolean)) := ⟨h0e, hhf, hret, hQ⟩
  have hn : ∀ i, i < 7 → i < x.2.2.1.1.1 := fun i hi => by rw [hnl]; exact hi
  have e0 : lv_args 0 [vR x.2.2.2 x0, .int x1] = [(0, vR x.2.2.2 x0), (1, .int x1)] := by simp only [lv_argsR, lv_argsI, lv_argsL, lv_args0]
  rw [e0]
  have hb39 : ∀ (x0 : Nat) (x1 : Int32) (x2 : Int32) (x3 : Nat) (x4 : Int32) (x5 : Int32) (h : Hp), J x 39 [(0, vR x.2.2.2 x0), (1, .int x1), (2, .int x2), (3, vR x.2.2.2 x3), (4, .int x4), (5, .int x5)] [] h (mX13_holds_l39 g x0 x1 x2 x3 x4 x5 h) (fun r => r = u) := by
    intro x0 x1 x2 x3 x4 x5 h
    have hB : ∀ (x2 : Int32) (x5 : Int32) (h : Hp), J x 39 [(0, vR x.2.2.2 x0), (1, .int x1), (2, .int x2), (3, vR x.2.2.2 x3), (4, .int x4), (5, .int x5)] [] h (mX13_holds_l39f g x0 x1 x3 x4 x2 x5 h) (TLo (S := (Int32 × Int32 × Hp)) x 39 (fun s => [(0, vR x.2.2.2 x0), (1, .int x1), (2, .int s.1), (3, vR x.2.2.2 x3), (4, .int x4), (5, .int s.2.1)]) [] (fun s => s.2.2) (fun r => r = u)) := by
      intro x2 x5 h
      have hb67 : ∀ (x0 : Nat) (x1 : Int32) (x3 : Nat) (x4 : Int32) (x5 : Int32) (t0 : Int32) (t1 : Int32) (h : Hp), J x 67 [(0, vR x.2.2.2 x0), (1, .int x1), (3, vR x.2.2.2 x3), (4, .int x4), (5, .int x5)] [.int t1, .int t0] h (mX13_holds_b67 g x0 x1 x3 x4 x5 t0 t1 h) (TLo (S := (Int32 × Int32 × Hp)) x 39 (fun s => [(0, vR x.2.2.2 x0), (1, .int x1), (2, .int s.1), (3, vR x.2.2.2 x3), (4, .int x4), (5, .int s.2.1)]) [] (fun s => s.2.2) (fun r => r = u)) := by
        intro x0 x1 x3 x4 x5 t0 t1 h
        unfold mX13_holds_b67
        refine j_iadd (q := 68) hx (dc kX13_holds_0 40 rfl) rfl ?_
        refine j_istore_n (q := 69) (i := 2) (l2 := [(0, vR x.2.2.2 x0), (1, .int x1), (3, vR x.2.2.2 x3), (4, .int x4), (5, .int x5)]) hx (dc kX13_holds_0 41 rfl) rfl (hn 2 (by decide)) [0, 1, 2, 3, 4] rfl ⟨⟨show (0 : Nat) ≠ 2 by decide, Or.inl (show (0 : Nat) + 1 ≠ 2 by decide)⟩, ⟨⟨show (1 : Nat) ≠ 2 by decide, Or.inr rfl⟩, ⟨⟨show (3 : Nat) ≠ 2 by decide, Or.inl (show (3 : Nat) + 1 ≠ 2 by decide)⟩, ⟨⟨show (4 : Nat) ≠ 2 by decide, Or.inl (show (4 : Nat) + 1 ≠ 2 by decide)⟩, ⟨⟨show (5 : Nat) ≠ 2 by decide, Or.inl (show (5 : Nat) + 1 ≠ 2 by decide)⟩, trivial⟩⟩⟩⟩⟩ rfl ?_
        refine j_iinc (q := 72) (l2 := [(2, .int (t0 + t1)), (0, vR x.2.2.2 x0), (1, .int x1), (3, vR x.2.2.2 x3), (4, .int x4)]) hx (dc kX13_holds_0 42 rfl) 5 rfl (v := (1 : Int32)) (by decide) (hn 5 (by decide)) [0, 1, 2, 3, 4] rfl ⟨⟨show (2 : Nat) ≠ 5 by decide, Or.inl (show (2 : Nat) + 1 ≠ 5 by decide)⟩, ⟨⟨show (0 : Nat) ≠ 5 by decide, Or.inl (show (0 : Nat) + 1 ≠ 5 by decide)⟩, ⟨⟨show (1 : Nat) ≠ 5 by decide, Or.inl (show (1 : Nat) + 1 ≠ 5 by decide)⟩, ⟨⟨show (3 : Nat) ≠ 5 by decide, Or.inl (show (3 : Nat) + 1 ≠ 5 by decide)⟩, ⟨⟨show (4 : Nat) ≠ 5 by decide, Or.inr rfl⟩, trivial⟩⟩⟩⟩⟩ rfl ?_
        refine j_goto (q := 39) hx (dc kX13_holds_0 43 rfl) (by decide) ?_
        exact j_back [2, 3, 1, 4, 5, 0] ((t0 + t1), (x5 + (1 : Int32)), h) rfl rfl
      unfold mX13_holds_l39f
      refine j_iload (q := 41) hx (dc kX13_holds_0 25 rfl) 5 rfl rfl ?_
      refine j_iload (q := 43) hx (dc kX13_holds_0 26 rfl) 4 rfl rfl ?_
      refine j_icmp_geS (q := 46) (tgt := 75) hx (dc kX13_holds_0 27 rfl) (by decide) rfl ?_ ?_
      · refine j_exit ?_
        refine j_aload_n (q := 76) hx (dc kX13_holds_0 44 rfl) rfl 0 rfl rfl ?_
        refine w_gI (q := 79) hx (dc kX13_holds_0 45 rfl) ff_X13_0 lk_X13_7 rfl (fun v4 => ?_)
        refine j_iconst (q := 80) (v := (1 : Int32)) hx (dc kX13_holds_0 46 rfl) (by decide) rfl ?_
        refine j_icmp_neS (q := 83) (tgt := 95) hx (dc kX13_holds_0 47 rfl) (by decide) rfl ?_ ?_
        · refine j_aload_n (q := 96) hx (dc kX13_holds_0 54 rfl) rfl 0 rfl rfl ?_
          refine w_gI (q := 99) hx (dc kX13_holds_0 55 rfl) ff_X13_0 lk_X13_7 rfl (fun v5 => ?_)
          refine j_iconst (q := 100) (v := (2 : Int32)) hx (dc kX13_holds_0 56 rfl) (by decide) rfl ?_
          refine j_icmp_neS (q := 103) (tgt := 120) hx (dc kX13_holds_0 57 rfl) (by decide) rfl ?_ ?_
          · refine j_aload_n (q := 121) hx (dc kX13_holds_1 3 rfl) rfl 0 rfl rfl ?_
            refine w_gI (q := 124) hx (dc kX13_holds_1 4 rfl) ff_X13_0 lk_X13_7 rfl (fun v6 => ?_)
            refine j_iconst (q := 125) (v := (3 : Int32)) hx (dc kX13_holds_1 5 rfl) (by decide) rfl ?_
            refine j_icmp_neS (q := 128) (tgt := 140) hx (dc kX13_holds_1 6 rfl) (by decide) rfl ?_ ?_
            · refine j_iload_n (q := 141) hx (dc kX13_holds_1 13 rfl) rfl 2 rfl rfl ?_
              refine j_aload_n (q := 142) hx (dc kX13_holds_1 14 rfl) rfl 0 rfl rfl ?_
              refine w_gI (q := 145) hx (dc kX13_holds_1 15 rfl) ff_X13_1 lk_X13_13 rfl (fun v7 => ?_)
              refine j_icmp_lt (q := 148) (tgt := 152) hx (dc kX13_holds_1 16 rfl) (by decide) Iff.rfl rfl ?_ ?_
              · refine j_iconst (q := 153) (v := (0 : Int32)) hx (dc kX13_holds_1 19 rfl) (by decide) rfl ?_
                exact r_cW hx (Or.inl rfl) hR (dc kX13_holds_1 20 rfl)
              · refine j_iconst (q := 149) (v := (1 : Int32)) hx (dc kX13_holds_1 17 rfl) (by decide) rfl ?_
                refine j_goto (q := 153) hx (dc kX13_holds_1 18 rfl) (by decide) ?_
                exact r_cW hx (Or.inr rfl) hR (dc kX13_holds_1 20 rfl)
            · refine j_iload_n (q := 129) hx (dc kX13_holds_1 7 rfl) rfl 2 rfl rfl ?_
              refine j_if_leS (q := 132) (tgt := 136) hx (dc kX13_holds_1 8 rfl) (by decide) rfl ?_ ?_
              · refine j_iconst (q := 137) (v := (0 : Int32)) hx (dc kX13_holds_1 11 rfl) (by decide) rfl ?_
                refine j_goto (q := 153) hx (dc kX13_holds_1 12 rfl) (by decide) ?_
                exact r_cW hx (Or.inl rfl) hR (dc kX13_holds_1 20 rfl)
              · refine j_iconst (q := 133) (v := (1 : Int32)) hx (dc kX13_holds_1 9 rfl) (by decide) rfl ?_
                refine j_goto (q := 153) hx (dc kX13_holds_1 10 rfl) (by decide) ?_
                exact r_cW hx (Or.inr rfl) hR (dc kX13_holds_1 20 rfl)
          · refine j_iload_n (q := 104) hx (dc kX13_holds_0 58 rfl) rfl 2 rfl rfl ?_
            refine j_aload_n (q := 105) hx (dc kX13_holds_0 59 rfl) rfl 0 rfl rfl ?_
            refine w_gR (q := 108) hx (dc kX13_holds_0 60 rfl) ff_X13_2 lk_X13_16 rfl (fun v8 => ?_)
            refine j_alen (q := 109) hx (dc kX13_holds_0 61 rfl) rfl (fun v9 => ?_)
            refine j_icmp_neS (q := 112) (tgt := 116) hx (dc kX13_holds_0 62 rfl) (by decide) rfl ?_ ?_
            · refine j_iconst (q := 117) (v := (0 : Int32)) hx (dc kX13_holds_1 1 rfl) (by decide) rfl ?_
              refine j_goto (q := 153) hx (dc kX13_holds_1 2 rfl) (by decide) ?_
              exact r_cW hx (Or.inl rfl) hR (dc kX13_holds_1 20 rfl)
            · refine j_iconst (q := 113) (v := (1 : Int32)) hx (dc kX13_holds_0 63 rfl) (by decide) rfl ?_
              refine j_goto (q := 153) hx (dc kX13_holds_1 0 rfl) (by decide) ?_
              exact r_cW hx (Or.inr rfl) hR (dc kX13_holds_1 20 rfl)
        · refine j_iload_n (q := 84) hx (dc kX13_holds_0 48 rfl) rfl 2 rfl rfl ?_
          refine j_if_neS (q := 87) (tgt := 91) hx (dc kX13_holds_0 49 rfl) (by decide) rfl ?_ ?_
          · refine j_iconst (q := 92) (v := (0 : Int32)) hx (dc kX13_holds_0 52 rfl) (by decide) rfl ?_
            refine j_goto (q := 153) hx (dc kX13_holds_0 53 rfl) (by decide) ?_
            exact r_cW hx (Or.inl rfl) hR (dc kX13_holds_1 20 rfl)
          · refine j_iconst (q := 88) (v := (1 : Int32)) hx (dc kX13_holds_0 50 rfl) (by decide) rfl ?_
            refine j_goto (q := 153) hx (dc kX13_holds_0 51 rfl) (by decide) ?_
            exact r_cW hx (Or.inr rfl) hR (dc kX13_holds_1 20 rfl)
      · refine j_aload_n (q := 47) hx (dc kX13_holds_0 28 rfl) rfl 3 rfl rfl ?_
        refine j_iload (q := 49) hx (dc kX13_holds_0 29 rfl) 5 rfl rfl ?_
        refine j_ldR (t := 2) (q := 50) hx (dc kX13_holds_0 30 rfl) rfl (by decide) rfl (fun v10 => ?_)
        refine j_astore (q := 52) (i := 6) (l2 := [(0, vR x.2.2.2 x0), (1, .int x1), (2, .int x2), (3, vR x.2.2.2 x3), (4, .int x4), (5, .int x5)]) hx (dc kX13_holds_0 31 rfl) (hn 6 (by decide)) [0, 1, 2, 3, 4, 5] rfl ⟨⟨show (0 : Nat) ≠ 6 by decide, Or.inl (show (0 : Nat) + 1 ≠ 6 by decide)⟩, ⟨⟨show (1 : Nat) ≠ 6 by decide, Or.inl (show (1 : Nat) + 1 ≠ 6 by decide)⟩, ⟨⟨show (2 : Nat) ≠ 6 by decide, Or.inl (show (2 : Nat) + 1 ≠ 6 by decide)⟩, ⟨⟨show (3 : Nat) ≠ 6 by decide, Or.inl (show (3 : Nat) + 1 ≠ 6 by decide)⟩, ⟨⟨show (4 : Nat) ≠ 6 by decide, Or.inl (show (4 : Nat) + 1 ≠ 6 by decide)⟩, ⟨⟨show (5 : Nat) ≠ 6 by decide, Or.inr rfl⟩, trivial⟩⟩⟩⟩⟩⟩ rfl ?_
        refine j_iload_n (q := 53) hx (dc kX13_holds_0 32 rfl) rfl 3 rfl rfl ?_
        refine j_aload (q := 55) hx (dc kX13_holds_0 33 rfl) 0 rfl rfl ?_
        refine j_iload_n (q := 56) hx (dc kX13_holds_0 34 rfl) rfl 2 rfl rfl ?_
        refine w_cVIW (q := 59) (As := [.int x1]) (st := [.int x2]) hx (dc kX13_holds_0 35 rfl) cf13 (by decide) rfl (cI _ my_X13_holds lm_X13_20 (by omega)) vs_X13_holds rfl (fun u hu => hg0 _ _ _ _ _ _ hu) (hk0 _ _ _) (sum_le (sum_I sum_nil) (by decide)) rfl (fun v11 h12 => ?_)
        refine j_if_eq (q := 62) (tgt := 66) hx (dc kX13_holds_0 36 rfl) (by decide) Iff.rfl rfl ?_ ?_
        · refine j_iconst (q := 67) (v := (0 : Int32)) hx (dc kX13_holds_0 39 rfl) (by decide) rfl ?_
          exact j_sub [1, 2, 4, 5, 6] rfl (hb67 x0 x1 x3 x4 x5 x2 (0 : Int32) h12)
        · refine j_iconst (q := 63) (v := (1 : Int32)) hx (dc kX13_holds_0 37 rfl) (by decide) rfl ?_
          refine j_goto (q := 67) hx (dc kX13_holds_0 38 rfl) (by decide) ?_
          exact j_sub [1, 2, 4, 5, 6] rfl (hb67 x0 x1 x3 x4 x5 x2 (1 : Int32) h12)
    exact j_loop (S := (Int32 × Int32 × Hp)) (lvf := fun s => [(0, vR x.2.2.2 x0), (1, .int x1), (2, .int s.1), (3, vR x.2.2.2 x3), (4, .int x4), (5, .int s.2.1)]) (hpf := fun s => s.2.2) (f := (fun s : (Int32 × Int32 × Hp) => mX13_holds_l39f g x0 x1 x3 x4 s.1 s.2.1 s.2.2)) (fun s => hB s.1 s.2.1 s.2.2) (x2, x5, h)
  unfold mX13_holds_F
  refine J.ckd fun hck => ?_
  refine j_aload_n (q := 1) hx (dc kX13_holds_0 0 rfl) rfl 0 rfl rfl ?_
  refine w_gI (q := 4) hx (dc kX13_holds_0 1 rfl) ff_X13_0 lk_X13_7 rfl (fun v1 => ?_)
  refine j_if_neS (q := 7) (tgt := 25) hx (dc kX13_holds_0 2 rfl) (by decide) rfl ?_ ?_
  · refine j_iconst (q := 26) (v := (0 : Int32)) hx (dc kX13_holds_0 15 rfl) (by decide) rfl ?_
    refine j_istore_n (q := 27) (i := 2) (l2 := [(0, vR x.2.2.2 x0), (1, .int x1)]) hx (dc kX13_holds_0 16 rfl) rfl (hn 2 (by decide)) [0, 1] rfl ⟨⟨show (0 : Nat) ≠ 2 by decide, Or.inl (show (0 : Nat) + 1 ≠ 2 by decide)⟩, ⟨⟨show (1 : Nat) ≠ 2 by decide, Or.inr rfl⟩, trivial⟩⟩ rfl ?_
    refine j_aload_n (q := 28) hx (dc kX13_holds_0 17 rfl) rfl 1 rfl rfl ?_
    refine w_gR (q := 31) hx (dc kX13_holds_0 18 rfl) ff_X13_2 lk_X13_16 rfl (fun v2 => ?_)
    refine j_astore_n (q := 32) (i := 3) (l2 := [(2, .int (0 : Int32)), (0, vR x.2.2.2 x0), (1, .int x1)]) hx (dc kX13_holds_0 19 rfl) rfl (hn 3 (by decide)) [0, 1, 2] rfl ⟨⟨show (2 : Nat) ≠ 3 by decide, Or.inr rfl⟩, ⟨⟨show (0 : Nat) ≠ 3 by decide, Or.inl (show (0 : Nat) + 1 ≠ 3 by decide)⟩, ⟨⟨show (1 : Nat) ≠ 3 by decide, Or.inl (show (1 : Nat) + 1 ≠ 3 by decide)⟩, trivial⟩⟩⟩ rfl ?_
    refine j_aload_n (q := 33) hx (dc kX13_holds_0 20 rfl) rfl 0 rfl rfl ?_
    refine j_alen (q := 34) hx (dc kX13_holds_0 21 rfl) rfl (fun v3 => ?_)
    refine j_istore (q := 36) (i := 4) (l2 := [(3, vR x.2.2.2 v2), (2, .int (0 : Int32)), (0, vR x.2.2.2 x0), (1, .int x1)]) hx (dc kX13_holds_0 22 rfl) (hn 4 (by decide)) [0, 1, 2, 3] rfl ⟨⟨show (3 : Nat) ≠ 4 by decide, Or.inr (vR_cat _ _)⟩, ⟨⟨show (2 : Nat) ≠ 4 by decide, Or.inl (show (2 : Nat) + 1 ≠ 4 by decide)⟩, ⟨⟨show (0 : Nat) ≠ 4 by decide, Or.inl (show (0 : Nat) + 1 ≠ 4 by decide)⟩, ⟨⟨show (1 : Nat) ≠ 4 by decide, Or.inl (show (1 : Nat) + 1 ≠ 4 by decide)⟩, trivial⟩⟩⟩⟩ rfl ?_
    refine j_iconst (q := 37) (v := (0 : Int32)) hx (dc kX13_holds_0 23 rfl) (by decide) rfl ?_
    refine j_istore (q := 39) (i := 5) (l2 := [(4, .int v3), (3, vR x.2.2.2 v2), (2, .int (0 : Int32)), (0, vR x.2.2.2 x0), (1, .int x1)]) hx (dc kX13_holds_0 24 rfl) (hn 5 (by decide)) [0, 1, 2, 3, 4] rfl ⟨⟨show (4 : Nat) ≠ 5 by decide, Or.inr rfl⟩, ⟨⟨show (3 : Nat) ≠ 5 by decide, Or.inl (show (3 : Nat) + 1 ≠ 5 by decide)⟩, ⟨⟨show (2 : Nat) ≠ 5 by decide, Or.inl (show (2 : Nat) + 1 ≠ 5 by decide)⟩, ⟨⟨show (0 : Nat) ≠ 5 by decide, Or.inl (show (0 : Nat) + 1 ≠ 5 by decide)⟩, ⟨⟨show (1 : Nat) ≠ 5 by decide, Or.inl (show (1 : Nat) + 1 ≠ 5 by decide)⟩, trivial⟩⟩⟩⟩⟩ rfl ?_
    exact j_sub [4, 5, 3, 2, 1, 0] rfl (hb39 x0 x1 (0 : Int32) v2 v3 (0 : Int32) h)
  · refine j_iload_n (q := 8) hx (dc kX13_holds_0 3 rfl) rfl 1 rfl rfl ?_
    refine j_aload_n (q := 9) hx (dc kX13_holds_0 4 rfl) rfl 0 rfl rfl ?_
    refine w_gI (q := 12) hx (dc kX13_holds_0 5 rfl) ff_X13_1 lk_X13_13 rfl (fun v13 => ?_)
    refine j_ishr (q := 13) hx (dc kX13_holds_0 6 rfl) rfl ?_
    refine j_iconst (q := 14) (v := (1 : Int32)) hx (dc kX13_holds_0 7 rfl) (by decide) rfl ?_
    refine j_iand (q := 15) hx (dc kX13_holds_0 8 rfl) rfl ?_
    refine j_iconst (q := 16) (v := (1 : Int32)) hx (dc kX13_holds_0 9 rfl) (by decide) rfl ?_
    refine j_icmp_neS (q := 19) (tgt := 23) hx (dc kX13_holds_0 10 rfl) (by decide) rfl ?_ ?_
    · refine j_iconst (q := 24) (v := (0 : Int32)) hx (dc kX13_holds_0 13 rfl) (by decide) rfl ?_
      exact r_cW hx (Or.inl rfl) hR (dc kX13_holds_0 14 rfl)
    · refine j_iconst (q := 20) (v := (1 : Int32)) hx (dc kX13_holds_0 11 rfl) (by decide) rfl ?_
      refine j_goto (q := 24) hx (dc kX13_holds_0 12 rfl) (by decide) ?_
      exact r_cW hx (Or.inr rfl) hR (dc kX13_holds_0 14 rfl)
theorem sg_X13_holds : ∀ n : Nat, (∀ (l : Launch) (w : Wd) (x0 : Nat) (x1 : Int32) (h : Hp) (u : (Int32 × Hp)), mX13_holds n x0 x1 h = some u → M1 l w mi_X13_holds (0 + n) [vR w x0, .int x1] h u.2 (some (.int u.1))) ∧
  (∀ (x0 : Nat) (x1 : Int32) (h : Hp), mX13_holds n x0 x1 h ≠ none → (hpS h x0).1 = 14) := by
  intro n
  induction n with
  | zero => exact ⟨fun _ _  _ _ _ _ e => (by cases e), fun _ _ _ e => absurd rfl e⟩
  | succ n ih =>
    obtain ⟨hg0, hk0⟩ := ih
    exact ⟨sX13_holds_F (0 + n) (by omega) (mg_X13_holds n) hg0 hk0, fun x0 x1 h e => ite_ne (by have e2 : mX13_holds_F (mg_X13_holds n) x0 x1 h ≠ none := e; unfold mX13_holds_F at e2; exact e2)⟩
theorem sX13_holds (n : Nat) (l : Launch) (w : Wd) (x0 : Nat) (x1 : Int32) (h : Hp) (u : (Int32 × Hp)) (hu : mX13_holds n x0 x1 h = some u) : M1 l w mi_X13_holds (0 + n) [vR w x0, .int x1] h u.2 (some (.int u.1)) := (sg_X13_holds n).1 l w x0 x1 h u hu
theorem kX13_holds (n : Nat) (x0 : Nat) (x1 : Int32) (h : Hp) (e : mX13_holds n x0 x1 h ≠ none) : (hpS h x0).1 = 14 := (sg_X13_holds n).2 x0 x1 h e

set_option maxHeartbeats 4000000 in
set_option maxRecDepth 100000 in
theorem sJ5_init_d00df {x0 : Nat} (hvx0 : x0 ≠ 0) (l : Launch) (w : Wd) (x1 : Int32) (h : Hp) (u : Hp) (hK : mJ5_init_d00df x0 x1 h = some u) : M1 l w mi_J5_init_d00df 1 [vR w x0, .int x1] h u (none) := by
  refine M1.of (own := RJ5) (T := fun _ r => r = u) hK (by decide +kernel) rfl (by first | (simp only [lg_lenR, lg_lenI, lg_lenL, lg_len0]; decide) | decide) (fun x hx hnl hhf hl hw hret hnm hQ h0e => ⟨?_, rfl⟩)
  subst hw
  subst hl
  have hR : Rt x h u (none) (none) := ⟨h0e, hhf, hret, hQ⟩
  have hn : ∀ i, i < 2 → i < x.2.2.1.1.1 := fun i hi => by rw [hnl]; exact hi
  have e0 : lv_args 0 [vR x.2.2.2 x0, .int x1] = [(0, vR x.2.2.2 x0), (1, .int x1)] := by simp only [lv_argsR, lv_argsI, lv_argsL, lv_args0]
  rw [e0]
  unfold mJ5_init_d00df
  refine j_aload_n (q := 1) hx (dc kJ5_init_d00df_0 0 rfl) rfl 0 rfl rfl ?_
  refine j_obj (q := 4) hx (dc kJ5_init_d00df_0 1 rfl) lo_J5_3 hvx0 (by decide) (Nat.zero_le _) rfl ?_
  refine j_gsC (q := 7) hx (dc kJ5_init_d00df_0 2 rfl) lsf_J5_18 rfl ?_
  refine j_if_eq (q := 10) (tgt := 25) hx (dc kJ5_init_d00df_0 3 rfl) (by decide) Iff.rfl rfl ?_ ?_
  · refine j_aload_n (q := 26) hx (dc kJ5_init_d00df_0 12 rfl) rfl 0 rfl rfl ?_
    refine j_iload_n (q := 27) hx (dc kJ5_init_d00df_0 13 rfl) rfl 1 rfl rfl ?_
    exact j_none
  · refine j_aload_n (q := 11) hx (dc kJ5_init_d00df_0 4 rfl) rfl 0 rfl rfl ?_
    refine j_iload_n (q := 12) hx (dc kJ5_init_d00df_0 5 rfl) rfl 1 rfl rfl ?_
    refine j_newarray53 (q := 14) hx (dc kJ5_init_d00df_0 6 rfl) ac_B rfl (fun v2 hvv2 h1 => ?_)
    refine w_sR (q := 17) hx (dc kJ5_init_d00df_0 7 rfl) ff_J4_0 lk_J5_15 (Or.inl rfl) rfl (fun h3 => ?_)
    refine j_aload_n (q := 18) hx (dc kJ5_init_d00df_0 8 rfl) rfl 0 rfl rfl ?_
    refine j_iconst (q := 19) (v := (0 : Int32)) hx (dc kJ5_init_d00df_0 9 rfl) (by decide) rfl ?_
    refine w_sB (q := 22) hx (dc kJ5_init_d00df_0 10 rfl) ff_J4_1 rfl lk_J5_22 (Or.inl rfl) rfl (fun h4 => ?_)
    refine j_goto (q := 38) hx (dc kJ5_init_d00df_0 11 rfl) (by decide) ?_
    exact r_vW hx hR (dc kJ5_init_d00df_0 19 rfl)

set_option maxHeartbeats 4000000 in
set_option maxRecDepth 100000 in
theorem sJ4_init_da8c8 {x0 : Nat} (hvx0 : x0 ≠ 0) (l : Launch) (w : Wd) (h : Hp) (u : Hp) (hK : mJ4_init_da8c8 x0 h = some u) : M1 l w mi_J4_init_da8c8 2 [vR w x0] h u (none) := by
  refine M1.of (own := RJ4) (T := fun _ r => r = u) hK (by decide +kernel) rfl (by first | (simp only [lg_lenR, lg_lenI, lg_lenL, lg_len0]; decide) | decide) (fun x hx hnl hhf hl hw hret hnm hQ h0e => ⟨?_, rfl⟩)
  subst hw
  subst hl
  have hR : Rt x h u (none) (none) := ⟨h0e, hhf, hret, hQ⟩
  have hn : ∀ i, i < 1 → i < x.2.2.1.1.1 := fun i hi => by rw [hnl]; exact hi
  have e0 : lv_args 0 [vR x.2.2.2 x0] = [(0, vR x.2.2.2 x0)] := by simp only [lv_argsR, lv_argsI, lv_argsL, lv_args0]
  rw [e0]
  unfold mJ4_init_da8c8
  refine j_aload_n (q := 1) hx (dc kJ4_init_da8c8_0 0 rfl) rfl 0 rfl rfl ?_
  refine j_bipush (q := 3) (v := (16 : Int32)) hx (dc kJ4_init_da8c8_0 1 rfl) (by decide) rfl ?_
  refine w_cIVW (q := 6) (As := [.int (16 : Int32)]) (st := []) hx (dc kJ4_init_da8c8_0 2 rfl) (cI _ my_J5_init_d00df lm_J4_1 (by decide)) is_J5_init_d00df rfl rfl (fun u hu => sJ5_init_d00df hvx0 _ _ _ _ _ hu) hvx0 (Nat.zero_le _) rfl (fun h2 => ?_)
  exact r_vW hx hR (dc kJ4_init_da8c8_0 3 rfl)

set_option maxHeartbeats 4000000 in
set_option maxRecDepth 100000 in
theorem sJ8_newLength_cabcc (l : Launch) (w : Wd) (x0 : Int32) (x1 : Int32) (x2 : Int32) (h : Hp) (u : Int32) (hK : mJ8_newLength_cabcc x0 x1 x2 = some u) : M1 l w mi_J8_newLength_cabcc 1 [.int x0, .int x1, .int x2] h h (some (.int u)) := by
  refine M1.of (own := RJ8) (T := fun _ r => r = u) hK (by decide +kernel) rfl (by first | (simp only [lg_lenR, lg_lenI, lg_lenL, lg_len0]; decide) | decide) (fun x hx hnl hhf hl hw hret hnm hQ h0e => ⟨?_, rfl⟩)
  subst hw
  subst hl
  have hR : Rt x h h (some (.int u)) ((some .int)) := ⟨h0e, hhf, hret, hQ⟩
  have hn : ∀ i, i < 4 → i < x.2.2.1.1.1 := fun i hi => by rw [hnl]; exact hi
  have e0 : lv_args 0 [.int x0, .int x1, .int x2] = [(0, .int x0), (1, .int x1), (2, .int x2)] := by simp only [lv_argsR, lv_argsI, lv_argsL, lv_args0]
  rw [e0]
  have hb21 : ∀ (x0 : Int32) (x1 : Int32), J x 21 [(0, .int x0), (1, .int x1)] [] h (mJ8_newLength_cabcc_b21 x0 x1) (fun r => r = u) := by
    intro x0 x1
    unfold mJ8_newLength_cabcc_b21
    refine j_iload_n (q := 22) hx (dc kJ8_newLength_cabcc_0 14 rfl) rfl 0 rfl rfl ?_
    refine j_iload_n (q := 23) hx (dc kJ8_newLength_cabcc_0 15 rfl) rfl 1 rfl rfl ?_
    exact j_none
  unfold mJ8_newLength_cabcc
  refine j_iload_n (q := 1) hx (dc kJ8_newLength_cabcc_0 0 rfl) rfl 0 rfl rfl ?_
  refine j_iload_n (q := 2) hx (dc kJ8_newLength_cabcc_0 1 rfl) rfl 1 rfl rfl ?_
  refine j_iload_n (q := 3) hx (dc kJ8_newLength_cabcc_0 2 rfl) rfl 2 rfl rfl ?_
  refine w_mmax (q := 6) hx (dc kJ8_newLength_cabcc_0 3 rfl) lm_J8_194 ms_mmax ms_init mc_mmax (by decide) (sum_le (sum_I sum_nil) (by decide)) rfl ?_
  refine j_iadd (q := 7) hx (dc kJ8_newLength_cabcc_0 4 rfl) rfl ?_
  refine j_istore_n (q := 8) (i := 3) (l2 := [(0, .int x0), (1, .int x1)]) hx (dc kJ8_newLength_cabcc_0 5 rfl) rfl (hn 3 (by decide)) [0, 1] rfl ⟨⟨show (0 : Nat) ≠ 3 by decide, Or.inl (show (0 : Nat) + 1 ≠ 3 by decide)⟩, ⟨⟨show (1 : Nat) ≠ 3 by decide, Or.inl (show (1 : Nat) + 1 ≠ 3 by decide)⟩, trivial⟩⟩ rfl ?_
  refine j_iconst (q := 9) (v := (0 : Int32)) hx (dc kJ8_newLength_cabcc_0 6 rfl) (by decide) rfl ?_
  refine j_iload_n (q := 10) hx (dc kJ8_newLength_cabcc_0 7 rfl) rfl 0 rfl rfl ?_
  refine j_icmp_geS (q := 13) (tgt := 21) hx (dc kJ8_newLength_cabcc_0 8 rfl) (by decide) rfl ?_ ?_
  · exact j_sub [1, 2] rfl (hb21 x0 x1)
  · refine j_iload_n (q := 14) hx (dc kJ8_newLength_cabcc_0 9 rfl) rfl 0 rfl rfl ?_
    refine j_ldc (q := 16) hx kc_J8_200 (dc kJ8_newLength_cabcc_0 10 rfl) rfl ?_
    refine j_icmp_gt (q := 19) (tgt := 21) hx (dc kJ8_newLength_cabcc_0 11 rfl) (by decide) Iff.rfl rfl ?_ ?_
    · exact j_sub [1, 2] rfl (hb21 x0 x1)
    · refine j_iload_n (q := 20) hx (dc kJ8_newLength_cabcc_0 12 rfl) rfl 0 rfl rfl ?_
      exact r_iR hx hR (dc kJ8_newLength_cabcc_0 13 rfl)

set_option maxHeartbeats 4000000 in
set_option maxRecDepth 100000 in
theorem sJ5_newCapacity_0f7a4 (l : Launch) (w : Wd) (x0 : Nat) (x1 : Int32) (h : Hp) (u : Int32) (hK : mJ5_newCapacity_0f7a4 x0 x1 h = some u) : M1 l w mi_J5_newCapacity_0f7a4 2 [vR w x0, .int x1] h h (some (.int u)) := by
  refine M1.of (own := RJ5) (T := fun _ r => r = u) hK (by decide +kernel) rfl (by first | (simp only [lg_lenR, lg_lenI, lg_lenL, lg_len0]; decide) | decide) (fun x hx hnl hhf hl hw hret hnm hQ h0e => ⟨?_, rfl⟩)
  subst hw
  subst hl
  have hR : Rt x h h (some (.int u)) ((some .int)) := ⟨h0e, hhf, hret, hQ⟩
  have hn : ∀ i, i < 6 → i < x.2.2.1.1.1 := fun i hi => by rw [hnl]; exact hi
  have e0 : lv_args 0 [vR x.2.2.2 x0, .int x1] = [(0, vR x.2.2.2 x0), (1, .int x1)] := by simp only [lv_argsR, lv_argsI, lv_argsL, lv_args0]
  rw [e0]
  unfold mJ5_newCapacity_0f7a4
  refine J.ckd fun hck => ?_
  refine j_aload_n (q := 1) hx (dc kJ5_newCapacity_0f7a4_0 0 rfl) rfl 0 rfl rfl ?_
  refine w_gR (q := 4) hx (dc kJ5_newCapacity_0f7a4_0 1 rfl) ff_J4_0 lk_J5_15 rfl (fun v1 => ?_)
  refine j_bLn (q := 5) hx (dc kJ5_newCapacity_0f7a4_0 2 rfl) rfl (fun v2 => ?_)
  refine j_istore_n (q := 6) (i := 2) (l2 := [(0, vR x.2.2.2 x0), (1, .int x1)]) hx (dc kJ5_newCapacity_0f7a4_0 3 rfl) rfl (hn 2 (by decide)) [0, 1] rfl ⟨⟨show (0 : Nat) ≠ 2 by decide, Or.inl (show (0 : Nat) + 1 ≠ 2 by decide)⟩, ⟨⟨show (1 : Nat) ≠ 2 by decide, Or.inr rfl⟩, trivial⟩⟩ rfl ?_
  refine j_iload_n (q := 7) hx (dc kJ5_newCapacity_0f7a4_0 4 rfl) rfl 2 rfl rfl ?_
  refine j_aload_n (q := 8) hx (dc kJ5_newCapacity_0f7a4_0 5 rfl) rfl 1 rfl rfl ?_
  refine w_gI (q := 11) hx (dc kJ5_newCapacity_0f7a4_0 6 rfl) ff_J4_1 lk_J5_22 rfl (fun v3 => ?_)
  refine j_ishl (q := 12) hx (dc kJ5_newCapacity_0f7a4_0 7 rfl) rfl ?_
  refine j_istore_n (q := 13) (i := 3) (l2 := [(2, .int v2), (0, vR x.2.2.2 x0)]) hx (dc kJ5_newCapacity_0f7a4_0 8 rfl) rfl (hn 3 (by decide)) [0, 1] rfl ⟨⟨show (2 : Nat) ≠ 3 by decide, Or.inr rfl⟩, ⟨⟨show (0 : Nat) ≠ 3 by decide, Or.inl (show (0 : Nat) + 1 ≠ 3 by decide)⟩, trivial⟩⟩ rfl ?_
  refine j_iload_n (q := 14) hx (dc kJ5_newCapacity_0f7a4_0 9 rfl) rfl 0 rfl rfl ?_
  refine j_iload_n (q := 15) hx (dc kJ5_newCapacity_0f7a4_0 10 rfl) rfl 1 rfl rfl ?_
  refine j_isub (q := 16) hx (dc kJ5_newCapacity_0f7a4_0 11 rfl) rfl ?_
  refine j_istore (q := 18) (i := 4) (l2 := [(2, .int v2), (0, vR x.2.2.2 x0)]) hx (dc kJ5_newCapacity_0f7a4_0 12 rfl) (hn 4 (by decide)) [1, 2] rfl ⟨⟨show (2 : Nat) ≠ 4 by decide, Or.inl (show (2 : Nat) + 1 ≠ 4 by decide)⟩, ⟨⟨show (0 : Nat) ≠ 4 by decide, Or.inl (show (0 : Nat) + 1 ≠ 4 by decide)⟩, trivial⟩⟩ rfl ?_
  refine j_iload_n (q := 19) hx (dc kJ5_newCapacity_0f7a4_0 13 rfl) rfl 1 rfl rfl ?_
  refine j_iload (q := 21) hx (dc kJ5_newCapacity_0f7a4_0 14 rfl) 0 rfl rfl ?_
  refine j_iload_n (q := 22) hx (dc kJ5_newCapacity_0f7a4_0 15 rfl) rfl 1 rfl rfl ?_
  refine j_iconst (q := 23) (v := (2 : Int32)) hx (dc kJ5_newCapacity_0f7a4_0 16 rfl) (by decide) rfl ?_
  refine j_aload_n (q := 24) hx (dc kJ5_newCapacity_0f7a4_0 17 rfl) rfl 2 rfl rfl ?_
  refine w_gI (q := 27) hx (dc kJ5_newCapacity_0f7a4_0 18 rfl) ff_J4_1 lk_J5_22 rfl (fun v4 => ?_)
  refine j_ishl (q := 28) hx (dc kJ5_newCapacity_0f7a4_0 19 rfl) rfl ?_
  refine j_iadd (q := 29) hx (dc kJ5_newCapacity_0f7a4_0 20 rfl) rfl ?_
  refine w_cSIR (q := 32) (As := [.int v2, .int ((x1 <<< (v3 &&& 31)) - v2), .int (v2 + ((2 : Int32) <<< (v4 &&& 31)))]) (st := []) hx (dc kJ5_newCapacity_0f7a4_0 21 rfl) (cI _ my_J8_newLength_cabcc lm_J5_114 (by decide)) st_J8_newLength_cabcc rfl (fun u hu => sJ8_newLength_cabcc _ _ _ _ _ _ _ hu) (Nat.zero_le _) rfl (fun v5 => ?_)
  refine j_istore (q := 34) (i := 5) (l2 := [(0, vR x.2.2.2 x0)]) hx (dc kJ5_newCapacity_0f7a4_0 22 rfl) (hn 5 (by decide)) [2] rfl ⟨⟨show (0 : Nat) ≠ 5 by decide, Or.inl (show (0 : Nat) + 1 ≠ 5 by decide)⟩, trivial⟩ rfl ?_
  refine j_iload (q := 36) hx (dc kJ5_newCapacity_0f7a4_0 23 rfl) 0 rfl rfl ?_
  refine j_ldc (q := 38) hx kc_J5_39 (dc kJ5_newCapacity_0f7a4_0 24 rfl) rfl ?_
  refine j_icmp_neS (q := 41) (tgt := 51) hx (dc kJ5_newCapacity_0f7a4_0 25 rfl) (by decide) rfl ?_ ?_
  · refine j_iload (q := 53) hx (dc kJ5_newCapacity_0f7a4_0 31 rfl) 0 rfl rfl ?_
    refine j_aload_n (q := 54) hx (dc kJ5_newCapacity_0f7a4_0 32 rfl) rfl 1 rfl rfl ?_
    refine w_gI (q := 57) hx (dc kJ5_newCapacity_0f7a4_0 33 rfl) ff_J4_1 lk_J5_22 rfl (fun v7 => ?_)
    refine j_ishr (q := 58) hx (dc kJ5_newCapacity_0f7a4_0 34 rfl) rfl ?_
    exact r_iR hx hR (dc kJ5_newCapacity_0f7a4_0 35 rfl)
  · exact j_none

set_option maxHeartbeats 4000000 in
set_option maxRecDepth 100000 in
theorem sJ7_copyOf_9075b (l : Launch) (w : Wd) (x0 : Nat) (x1 : Int32) (h : Hp) (u : (Nat × Hp)) (hK : mJ7_copyOf_9075b x0 x1 h = some u) : M1 l w mi_J7_copyOf_9075b 1 [vR w x0, .int x1] h u.2 (some (vR w u.1)) := by
  refine M1.of (own := RJ7) (T := fun _ r => r = u) hK (by decide +kernel) rfl (by first | (simp only [lg_lenR, lg_lenI, lg_lenL, lg_len0]; decide) | decide) (fun x hx hnl hhf hl hw hret hnm hQ h0e => ⟨?_, rfl⟩)
  subst hw
  subst hl
  have hR : Rt x h u.2 (some (vR x.2.2.2 u.1)) ((some (.array .byte))) := ⟨h0e, hhf, hret, hQ⟩
  have hn : ∀ i, i < 3 → i < x.2.2.1.1.1 := fun i hi => by rw [hnl]; exact hi
  have e0 : lv_args 0 [vR x.2.2.2 x0, .int x1] = [(0, vR x.2.2.2 x0), (1, .int x1)] := by simp only [lv_argsR, lv_argsI, lv_argsL, lv_args0]
  rw [e0]
  unfold mJ7_copyOf_9075b
  refine j_iload_n (q := 1) hx (dc kJ7_copyOf_9075b_0 0 rfl) rfl 1 rfl rfl ?_
  refine j_aload_n (q := 2) hx (dc kJ7_copyOf_9075b_0 1 rfl) rfl 0 rfl rfl ?_
  refine j_bLn (q := 3) hx (dc kJ7_copyOf_9075b_0 2 rfl) rfl (fun v1 => ?_)
  refine j_icmp_neS (q := 6) (tgt := 14) hx (dc kJ7_copyOf_9075b_0 3 rfl) (by decide) rfl ?_ ?_
  · refine j_iload_n (q := 15) hx (dc kJ7_copyOf_9075b_0 8 rfl) rfl 1 rfl rfl ?_
    refine j_newarray53 (q := 17) hx (dc kJ7_copyOf_9075b_0 9 rfl) ac_B rfl (fun v3 hvv3 h2 => ?_)
    refine j_astore_n (q := 18) (i := 2) (l2 := [(0, vR x.2.2.2 x0), (1, .int x1)]) hx (dc kJ7_copyOf_9075b_0 10 rfl) rfl (hn 2 (by decide)) [0, 1] rfl ⟨⟨show (0 : Nat) ≠ 2 by decide, Or.inl (show (0 : Nat) + 1 ≠ 2 by decide)⟩, ⟨⟨show (1 : Nat) ≠ 2 by decide, Or.inr rfl⟩, trivial⟩⟩ rfl ?_
    refine j_aload_n (q := 19) hx (dc kJ7_copyOf_9075b_0 11 rfl) rfl 1 rfl rfl ?_
    refine j_iconst (q := 20) (v := (0 : Int32)) hx (dc kJ7_copyOf_9075b_0 12 rfl) (by decide) rfl ?_
    refine j_aload_n (q := 21) hx (dc kJ7_copyOf_9075b_0 13 rfl) rfl 0 rfl rfl ?_
    refine j_iconst (q := 22) (v := (0 : Int32)) hx (dc kJ7_copyOf_9075b_0 14 rfl) (by decide) rfl ?_
    refine j_aload_n (q := 23) hx (dc kJ7_copyOf_9075b_0 15 rfl) rfl 1 rfl rfl ?_
    refine j_bLn (q := 24) hx (dc kJ7_copyOf_9075b_0 16 rfl) rfl (fun v4 => ?_)
    refine j_iload_n (q := 25) hx (dc kJ7_copyOf_9075b_0 17 rfl) rfl 2 rfl rfl ?_
    refine w_mmin (q := 28) hx (dc kJ7_copyOf_9075b_0 18 rfl) lm_J7_304 ms_mmin ms_init mc_mmin (by decide) (sum_le (sum_I (sum_R (sum_I (sum_R sum_nil)))) (by decide)) rfl ?_
    refine j_cpB (q := 31) hx (dc kJ7_copyOf_9075b_0 19 rfl) lm_J7_150 nat_ac (by decide) (Nat.zero_le _) rfl (fun h5 => ?_)
    refine j_aload_n (q := 32) hx (dc kJ7_copyOf_9075b_0 20 rfl) rfl 0 rfl rfl ?_
    exact r_aW hx (Or.inr ⟨_, rfl⟩) hR (dc kJ7_copyOf_9075b_0 21 rfl)
  · refine j_aload_n (q := 7) hx (dc kJ7_copyOf_9075b_0 4 rfl) rfl 0 rfl rfl ?_
    refine j_clB (q := 10) hx (dc kJ7_copyOf_9075b_0 5 rfl) ncl_J7_310 (by decide) (Nat.zero_le _) rfl (fun v7 hvv7 h6 => ?_)
    refine j_ckB (q := 13) hx (dc kJ7_copyOf_9075b_0 6 rfl) cb_J7_311 rfl ?_
    exact r_aW hx (Or.inr ⟨_, rfl⟩) hR (dc kJ7_copyOf_9075b_0 7 rfl)

set_option maxHeartbeats 4000000 in
set_option maxRecDepth 100000 in
theorem sJ5_ensureCapacityInternal_d00df (l : Launch) (w : Wd) (x0 : Nat) (x1 : Int32) (h : Hp) (u : Hp) (hK : mJ5_ensureCapacityInternal_d00df x0 x1 h = some u) : M1 l w mi_J5_ensureCapacityInternal_d00df 3 [vR w x0, .int x1] h u (none) := by
  refine M1.of (own := RJ5) (T := fun _ r => r = u) hK (by decide +kernel) rfl (by first | (simp only [lg_lenR, lg_lenI, lg_lenL, lg_len0]; decide) | decide) (fun x hx hnl hhf hl hw hret hnm hQ h0e => ⟨?_, rfl⟩)
  subst hw
  subst hl
  have hR : Rt x h u (none) (none) := ⟨h0e, hhf, hret, hQ⟩
  have hn : ∀ i, i < 3 → i < x.2.2.1.1.1 := fun i hi => by rw [hnl]; exact hi
  have e0 : lv_args 0 [vR x.2.2.2 x0, .int x1] = [(0, vR x.2.2.2 x0), (1, .int x1)] := by simp only [lv_argsR, lv_argsI, lv_argsL, lv_args0]
  rw [e0]
  unfold mJ5_ensureCapacityInternal_d00df
  refine J.ckd fun hck => ?_
  refine j_aload_n (q := 1) hx (dc kJ5_ensureCapacityInternal_d00df_0 0 rfl) rfl 0 rfl rfl ?_
  refine w_gR (q := 4) hx (dc kJ5_ensureCapacityInternal_d00df_0 1 rfl) ff_J4_0 lk_J5_15 rfl (fun v1 => ?_)
  refine j_bLn (q := 5) hx (dc kJ5_ensureCapacityInternal_d00df_0 2 rfl) rfl (fun v2 => ?_)
  refine j_aload_n (q := 6) hx (dc kJ5_ensureCapacityInternal_d00df_0 3 rfl) rfl 0 rfl rfl ?_
  refine w_gI (q := 9) hx (dc kJ5_ensureCapacityInternal_d00df_0 4 rfl) ff_J4_1 lk_J5_22 rfl (fun v3 => ?_)
  refine j_ishr (q := 10) hx (dc kJ5_ensureCapacityInternal_d00df_0 5 rfl) rfl ?_
  refine j_istore_n (q := 11) (i := 2) (l2 := [(0, vR x.2.2.2 x0), (1, .int x1)]) hx (dc kJ5_ensureCapacityInternal_d00df_0 6 rfl) rfl (hn 2 (by decide)) [0, 1] rfl ⟨⟨show (0 : Nat) ≠ 2 by decide, Or.inl (show (0 : Nat) + 1 ≠ 2 by decide)⟩, ⟨⟨show (1 : Nat) ≠ 2 by decide, Or.inr rfl⟩, trivial⟩⟩ rfl ?_
  refine j_iload_n (q := 12) hx (dc kJ5_ensureCapacityInternal_d00df_0 7 rfl) rfl 2 rfl rfl ?_
  refine j_iload_n (q := 13) hx (dc kJ5_ensureCapacityInternal_d00df_0 8 rfl) rfl 0 rfl rfl ?_
  refine j_isub (q := 14) hx (dc kJ5_ensureCapacityInternal_d00df_0 9 rfl) rfl ?_
  refine j_if_leS (q := 17) (tgt := 38) hx (dc kJ5_ensureCapacityInternal_d00df_0 10 rfl) (by decide) rfl ?_ ?_
  · exact r_vW hx hR (dc kJ5_ensureCapacityInternal_d00df_0 22 rfl)
  · refine j_aload_n (q := 18) hx (dc kJ5_ensureCapacityInternal_d00df_0 11 rfl) rfl 1 rfl rfl ?_
    refine j_aload_n (q := 19) hx (dc kJ5_ensureCapacityInternal_d00df_0 12 rfl) rfl 1 rfl rfl ?_
    refine w_gR (q := 22) hx (dc kJ5_ensureCapacityInternal_d00df_0 13 rfl) ff_J4_0 lk_J5_15 rfl (fun v4 => ?_)
    refine j_aload_n (q := 23) hx (dc kJ5_ensureCapacityInternal_d00df_0 14 rfl) rfl 1 rfl rfl ?_
    refine j_iload_n (q := 24) hx (dc kJ5_ensureCapacityInternal_d00df_0 15 rfl) rfl 2 rfl rfl ?_
    refine w_cUIR (q := 27) (As := [.int x1]) (st := [vR x.2.2.2 v4, vR x.2.2.2 x0]) hx (dc kJ5_ensureCapacityInternal_d00df_0 16 rfl) cf16 (by decide) (cu_J5_104 (by decide)) rfl (fun u hu => sJ5_newCapacity_0f7a4 _ _ _ _ _ _ hu) (fun e => ite_ne (by unfold mJ5_newCapacity_0f7a4 at e; exact e)) (sum_le (sum_R (sum_R sum_nil)) (by decide)) rfl (fun v5 => ?_)
    refine j_aload_n (q := 28) hx (dc kJ5_ensureCapacityInternal_d00df_0 17 rfl) rfl 1 rfl rfl ?_
    refine w_gI (q := 31) hx (dc kJ5_ensureCapacityInternal_d00df_0 18 rfl) ff_J4_1 lk_J5_22 rfl (fun v7 => ?_)
    refine j_ishl (q := 32) hx (dc kJ5_ensureCapacityInternal_d00df_0 19 rfl) rfl ?_
    refine w_cSRW (q := 35) (As := [vR x.2.2.2 v4, .int (v5 <<< (v7 &&& 31))]) (st := [vR x.2.2.2 x0]) hx (dc kJ5_ensureCapacityInternal_d00df_0 20 rfl) (cI _ my_J7_copyOf_9075b lm_J5_108 (by decide)) st_J7_copyOf_9075b rfl (fun u hu => sJ7_copyOf_9075b _ _ _ _ _ _ hu) (sum_le (sum_R sum_nil) (by decide)) rfl (fun v8 h9 => ?_)
    refine w_sR (q := 38) hx (dc kJ5_ensureCapacityInternal_d00df_0 21 rfl) ff_J4_0 lk_J5_15 (Or.inl rfl) rfl (fun h10 => ?_)
    exact r_vW hx hR (dc kJ5_ensureCapacityInternal_d00df_0 22 rfl)

set_option maxHeartbeats 4000000 in
set_option maxRecDepth 100000 in
theorem sJ5_inflateIfNeededFor_a7421 (l : Launch) (w : Wd) (x0 : Nat) (x1 : Nat) (h : Hp) (u : Unit) (hK : mJ5_inflateIfNeededFor_a7421 x0 x1 h = some u) : M1 l w mi_J5_inflateIfNeededFor_a7421 2 [vR w x0, vR w x1] h h (none) := by
  refine M1.of (own := RJ5) (T := fun _ r => r = u) hK (by decide +kernel) rfl (by first | (simp only [lg_lenR, lg_lenI, lg_lenL, lg_len0]; decide) | decide) (fun x hx hnl hhf hl hw hret hnm hQ h0e => ⟨?_, rfl⟩)
  subst hw
  subst hl
  have hR : Rt x h h (none) (none) := ⟨h0e, hhf, hret, hQ⟩
  have hn : ∀ i, i < 2 → i < x.2.2.1.1.1 := fun i hi => by rw [hnl]; exact hi
  have e0 : lv_args 0 [vR x.2.2.2 x0, vR x.2.2.2 x1] = [(0, vR x.2.2.2 x0), (1, vR x.2.2.2 x1)] := by simp only [lv_argsR, lv_argsI, lv_argsL, lv_args0]
  rw [e0]
  unfold mJ5_inflateIfNeededFor_a7421
  refine J.ckd fun hck => ?_
  refine j_gsC (q := 3) hx (dc kJ5_inflateIfNeededFor_a7421_0 0 rfl) lsf_J5_18 rfl ?_
  refine j_if_eq (q := 6) (tgt := 21) hx (dc kJ5_inflateIfNeededFor_a7421_0 1 rfl) (by decide) Iff.rfl rfl ?_ ?_
  · exact r_vR hx hR (dc kJ5_inflateIfNeededFor_a7421_0 9 rfl)
  · refine j_aload_n (q := 7) hx (dc kJ5_inflateIfNeededFor_a7421_0 2 rfl) rfl 0 rfl rfl ?_
    refine w_gI (q := 10) hx (dc kJ5_inflateIfNeededFor_a7421_0 3 rfl) ff_J4_1 lk_J5_22 rfl (fun v1 => ?_)
    refine j_aload_n (q := 11) hx (dc kJ5_inflateIfNeededFor_a7421_0 4 rfl) rfl 1 rfl rfl ?_
    refine w_cTIR (q := 14) (As := []) (st := [.int v1]) hx (dc kJ5_inflateIfNeededFor_a7421_0 5 rfl) (cI _ my_J0_coder_7d493 lm_J5_40 (by decide)) vs_J0_coder_7d493 rfl (fun u hu => sJ0_coder_7d493 _ _ _ _ _ hu) rfl (fun e => ite_ne (by unfold mJ0_coder_7d493 at e; exact e)) (sum_le (sum_I sum_nil) (by decide)) rfl (fun v2 => ?_)
    refine j_icmp_eq (q := 17) (tgt := 21) hx (dc kJ5_inflateIfNeededFor_a7421_0 6 rfl) (by decide) Iff.rfl rfl ?_ ?_
    · exact r_vR hx hR (dc kJ5_inflateIfNeededFor_a7421_0 9 rfl)
    · refine j_aload_n (q := 18) hx (dc kJ5_inflateIfNeededFor_a7421_0 7 rfl) rfl 0 rfl rfl ?_
      exact j_none

set_option maxHeartbeats 4000000 in
set_option maxRecDepth 100000 in
theorem sJ0_getBytes_840e7 (l : Launch) (w : Wd) (x0 : Nat) (x1 : Nat) (x2 : Int32) (x3 : Int32) (h : Hp) (u : Hp) (hK : mJ0_getBytes_840e7 x0 x1 x2 x3 h = some u) : M1 l w mi_J0_getBytes_840e7 2 [vR w x0, vR w x1, .int x2, .int x3] h u (none) := by
  refine M1.of (own := RJ0) (T := fun _ r => r = u) hK (by decide +kernel) rfl (by first | (simp only [lg_lenR, lg_lenI, lg_lenL, lg_len0]; decide) | decide) (fun x hx hnl hhf hl hw hret hnm hQ h0e => ⟨?_, rfl⟩)
  subst hw
  subst hl
  have hR : Rt x h u (none) (none) := ⟨h0e, hhf, hret, hQ⟩
  have hn : ∀ i, i < 4 → i < x.2.2.1.1.1 := fun i hi => by rw [hnl]; exact hi
  have e0 : lv_args 0 [vR x.2.2.2 x0, vR x.2.2.2 x1, .int x2, .int x3] = [(0, vR x.2.2.2 x0), (1, vR x.2.2.2 x1), (2, .int x2), (3, .int x3)] := by simp only [lv_argsR, lv_argsI, lv_argsL, lv_args0]
  rw [e0]
  unfold mJ0_getBytes_840e7
  refine J.ckd fun hck => ?_
  refine j_aload_n (q := 1) hx (dc kJ0_getBytes_840e7_0 0 rfl) rfl 0 rfl rfl ?_
  refine w_cTIR (q := 4) (As := []) (st := []) hx (dc kJ0_getBytes_840e7_0 1 rfl) (cI _ my_J0_coder_7d493 lm_J0_335 (by decide)) vs_J0_coder_7d493 rfl (fun u hu => sJ0_coder_7d493 _ _ _ _ _ hu) rfl (fun e => ite_ne (by unfold mJ0_coder_7d493 at e; exact e)) (Nat.zero_le _) rfl (fun v1 => ?_)
  refine j_iload_n (q := 5) hx (dc kJ0_getBytes_840e7_0 2 rfl) rfl 3 rfl rfl ?_
  refine j_icmp_neS (q := 8) (tgt := 28) hx (dc kJ0_getBytes_840e7_0 3 rfl) (by decide) rfl ?_ ?_
  · refine j_aload_n (q := 29) hx (dc kJ0_getBytes_840e7_0 16 rfl) rfl 0 rfl rfl ?_
    refine j_sV (q := 32) hx lsf_J0_9 (dc kJ0_getBytes_840e7_0 17 rfl) rfl (fun v3 => ?_)
    refine j_iconst (q := 33) (v := (0 : Int32)) hx (dc kJ0_getBytes_840e7_0 18 rfl) (by decide) rfl ?_
    refine j_aload_n (q := 34) hx (dc kJ0_getBytes_840e7_0 19 rfl) rfl 1 rfl rfl ?_
    refine j_iload_n (q := 35) hx (dc kJ0_getBytes_840e7_0 20 rfl) rfl 2 rfl rfl ?_
    refine j_aload_n (q := 36) hx (dc kJ0_getBytes_840e7_0 21 rfl) rfl 0 rfl rfl ?_
    refine j_sV (q := 39) hx lsf_J0_9 (dc kJ0_getBytes_840e7_0 22 rfl) rfl (fun v4 => ?_)
    refine j_bLn (q := 40) hx (dc kJ0_getBytes_840e7_0 23 rfl) rfl (fun v5 => ?_)
    exact j_none
  · refine j_aload_n (q := 9) hx (dc kJ0_getBytes_840e7_0 4 rfl) rfl 0 rfl rfl ?_
    refine j_sV (q := 12) hx lsf_J0_9 (dc kJ0_getBytes_840e7_0 5 rfl) rfl (fun v6 => ?_)
    refine j_iconst (q := 13) (v := (0 : Int32)) hx (dc kJ0_getBytes_840e7_0 6 rfl) (by decide) rfl ?_
    refine j_aload_n (q := 14) hx (dc kJ0_getBytes_840e7_0 7 rfl) rfl 1 rfl rfl ?_
    refine j_iload_n (q := 15) hx (dc kJ0_getBytes_840e7_0 8 rfl) rfl 2 rfl rfl ?_
    refine j_iload_n (q := 16) hx (dc kJ0_getBytes_840e7_0 9 rfl) rfl 3 rfl rfl ?_
    refine j_ishl (q := 17) hx (dc kJ0_getBytes_840e7_0 10 rfl) rfl ?_
    refine j_aload_n (q := 18) hx (dc kJ0_getBytes_840e7_0 11 rfl) rfl 0 rfl rfl ?_
    refine j_sV (q := 21) hx lsf_J0_9 (dc kJ0_getBytes_840e7_0 12 rfl) rfl (fun v7 => ?_)
    refine j_bLn (q := 22) hx (dc kJ0_getBytes_840e7_0 13 rfl) rfl (fun v8 => ?_)
    refine j_cpB (q := 25) hx (dc kJ0_getBytes_840e7_0 14 rfl) lm_J0_212 nat_ac (by decide) (Nat.zero_le _) rfl (fun h9 => ?_)
    refine j_goto (q := 43) hx (dc kJ0_getBytes_840e7_0 15 rfl) (by decide) ?_
    exact r_vW hx hR (dc kJ0_getBytes_840e7_0 25 rfl)

set_option maxHeartbeats 4000000 in
set_option maxRecDepth 100000 in
theorem sJ5_putStringAt_47b60 (l : Launch) (w : Wd) (x0 : Nat) (x1 : Int32) (x2 : Nat) (h : Hp) (u : Hp) (hK : mJ5_putStringAt_47b60 x0 x1 x2 h = some u) : M1 l w mi_J5_putStringAt_47b60 3 [vR w x0, .int x1, vR w x2] h u (none) := by
  refine M1.of (own := RJ5) (T := fun _ r => r = u) hK (by decide +kernel) rfl (by first | (simp only [lg_lenR, lg_lenI, lg_lenL, lg_len0]; decide) | decide) (fun x hx hnl hhf hl hw hret hnm hQ h0e => ⟨?_, rfl⟩)
  subst hw
  subst hl
  have hR : Rt x h u (none) (none) := ⟨h0e, hhf, hret, hQ⟩
  have hn : ∀ i, i < 3 → i < x.2.2.1.1.1 := fun i hi => by rw [hnl]; exact hi
  have e0 : lv_args 0 [vR x.2.2.2 x0, .int x1, vR x.2.2.2 x2] = [(0, vR x.2.2.2 x0), (1, .int x1), (2, vR x.2.2.2 x2)] := by simp only [lv_argsR, lv_argsI, lv_argsL, lv_args0]
  rw [e0]
  unfold mJ5_putStringAt_47b60
  refine J.ckd fun hck => ?_
  refine j_aload_n (q := 1) hx (dc kJ5_putStringAt_47b60_0 0 rfl) rfl 0 rfl rfl ?_
  refine j_aload_n (q := 2) hx (dc kJ5_putStringAt_47b60_0 1 rfl) rfl 2 rfl rfl ?_
  refine w_cUVR (q := 5) (As := [vR x.2.2.2 x2]) (st := []) hx (dc kJ5_putStringAt_47b60_0 2 rfl) cf16 (by decide) (cu_J5_397 (by decide)) rfl (fun u hu => sJ5_inflateIfNeededFor_a7421 _ _ _ _ _ _ hu) (fun e => ite_ne (by unfold mJ5_inflateIfNeededFor_a7421 at e; exact e)) (Nat.zero_le _) rfl (fun _ => ?_)
  refine j_aload_n (q := 6) hx (dc kJ5_putStringAt_47b60_0 3 rfl) rfl 2 rfl rfl ?_
  refine j_aload_n (q := 7) hx (dc kJ5_putStringAt_47b60_0 4 rfl) rfl 0 rfl rfl ?_
  refine w_gR (q := 10) hx (dc kJ5_putStringAt_47b60_0 5 rfl) ff_J4_0 lk_J5_15 rfl (fun v3 => ?_)
  refine j_iload_n (q := 11) hx (dc kJ5_putStringAt_47b60_0 6 rfl) rfl 1 rfl rfl ?_
  refine j_aload_n (q := 12) hx (dc kJ5_putStringAt_47b60_0 7 rfl) rfl 0 rfl rfl ?_
  refine w_gI (q := 15) hx (dc kJ5_putStringAt_47b60_0 8 rfl) ff_J4_1 lk_J5_22 rfl (fun v4 => ?_)
  refine w_cTVW (q := 18) (As := [vR x.2.2.2 v3, .int x1, .int v4]) (st := []) hx (dc kJ5_putStringAt_47b60_0 9 rfl) (cI _ my_J0_getBytes_840e7 lm_J5_399 (by decide)) vs_J0_getBytes_840e7 rfl (fun u hu => sJ0_getBytes_840e7 _ _ _ _ _ _ _ _ hu) rfl (fun e => ite_ne (by unfold mJ0_getBytes_840e7 at e; exact e)) (Nat.zero_le _) rfl (fun h6 => ?_)
  exact r_vW hx hR (dc kJ5_putStringAt_47b60_0 10 rfl)

set_option maxHeartbeats 4000000 in
set_option maxRecDepth 100000 in
theorem sJ5_append_cf1ce (l : Launch) (w : Wd) (x0 : Nat) (x1 : Nat) (h : Hp) (u : (Nat × Hp)) (hK : mJ5_append_cf1ce x0 x1 h = some u) : M1 l w mi_J5_append_cf1ce 4 [vR w x0, vR w x1] h u.2 (some (vR w u.1)) := by
  refine M1.of (own := RJ5) (T := fun _ r => r = u) hK (by decide +kernel) rfl (by first | (simp only [lg_lenR, lg_lenI, lg_lenL, lg_len0]; decide) | decide) (fun x hx hnl hhf hl hw hret hnm hQ h0e => ⟨?_, rfl⟩)
  subst hw
  subst hl
  have hR : Rt x h u.2 (some (vR x.2.2.2 u.1)) ((some (.object "java/lang/AbstractStringBuilder"))) := ⟨h0e, hhf, hret, hQ⟩
  have hn : ∀ i, i < 3 → i < x.2.2.1.1.1 := fun i hi => by rw [hnl]; exact hi
  have e0 : lv_args 0 [vR x.2.2.2 x0, vR x.2.2.2 x1] = [(0, vR x.2.2.2 x0), (1, vR x.2.2.2 x1)] := by simp only [lv_argsR, lv_argsI, lv_argsL, lv_args0]
  rw [e0]
  unfold mJ5_append_cf1ce
  refine J.ckd fun hck => ?_
  refine j_aload_n (q := 1) hx (dc kJ5_append_cf1ce_0 0 rfl) rfl 1 rfl rfl ?_
  refine j_ifnonnull (q := 4) (tgt := 9) hx (dc kJ5_append_cf1ce_0 1 rfl) (by decide) rfl ?_ ?_
  · refine j_aload_n (q := 10) hx (dc kJ5_append_cf1ce_0 5 rfl) rfl 1 rfl rfl ?_
    refine w_cTIR (q := 13) (As := []) (st := []) hx (dc kJ5_append_cf1ce_0 6 rfl) (cI _ my_J0_length_8abf5 lm_J5_32 (by decide)) vs_J0_length_8abf5 rfl (fun u hu => sJ0_length_8abf5 _ _ _ _ _ hu) rfl (fun e => ite_ne (by unfold mJ0_length_8abf5 at e; exact e)) (Nat.zero_le _) rfl (fun v1 => ?_)
    refine j_istore_n (q := 14) (i := 2) (l2 := [(0, vR x.2.2.2 x0), (1, vR x.2.2.2 x1)]) hx (dc kJ5_append_cf1ce_0 7 rfl) rfl (hn 2 (by decide)) [0, 1] rfl ⟨⟨show (0 : Nat) ≠ 2 by decide, Or.inl (show (0 : Nat) + 1 ≠ 2 by decide)⟩, ⟨⟨show (1 : Nat) ≠ 2 by decide, Or.inr (vR_cat _ _)⟩, trivial⟩⟩ rfl ?_
    refine j_aload_n (q := 15) hx (dc kJ5_append_cf1ce_0 8 rfl) rfl 1 rfl rfl ?_
    refine j_aload_n (q := 16) hx (dc kJ5_append_cf1ce_0 9 rfl) rfl 1 rfl rfl ?_
    refine w_gI (q := 19) hx (dc kJ5_append_cf1ce_0 10 rfl) ff_J4_3 lk_J5_79 rfl (fun v3 => ?_)
    refine j_iload_n (q := 20) hx (dc kJ5_append_cf1ce_0 11 rfl) rfl 0 rfl rfl ?_
    refine j_iadd (q := 21) hx (dc kJ5_append_cf1ce_0 12 rfl) rfl ?_
    refine w_cUVW (q := 24) (As := [.int (v3 + v1)]) (st := []) hx (dc kJ5_append_cf1ce_0 13 rfl) cf16 (by decide) (cu_J5_100 (by decide)) rfl (fun u hu => sJ5_ensureCapacityInternal_d00df _ _ _ _ _ _ hu) (fun e => ite_ne (by unfold mJ5_ensureCapacityInternal_d00df at e; exact e)) (Nat.zero_le _) rfl (fun h5 => ?_)
    refine j_aload_n (q := 25) hx (dc kJ5_append_cf1ce_0 14 rfl) rfl 1 rfl rfl ?_
    refine j_aload_n (q := 26) hx (dc kJ5_append_cf1ce_0 15 rfl) rfl 1 rfl rfl ?_
    refine w_gI (q := 29) hx (dc kJ5_append_cf1ce_0 16 rfl) ff_J4_3 lk_J5_79 rfl (fun v6 => ?_)
    refine j_aload_n (q := 30) hx (dc kJ5_append_cf1ce_0 17 rfl) rfl 2 rfl rfl ?_
    refine w_cUVW (q := 33) (As := [.int v6, vR x.2.2.2 x1]) (st := []) hx (dc kJ5_append_cf1ce_0 18 rfl) cf16 (by decide) (cu_J5_208 (by decide)) rfl (fun u hu => sJ5_putStringAt_47b60 _ _ _ _ _ _ _ hu) (fun e => ite_ne (by unfold mJ5_putStringAt_47b60 at e; exact e)) (Nat.zero_le _) rfl (fun h8 => ?_)
    refine j_aload_n (q := 34) hx (dc kJ5_append_cf1ce_0 19 rfl) rfl 1 rfl rfl ?_
    refine j_dup (q := 35) hx (dc kJ5_append_cf1ce_0 20 rfl) (vR_cat _ _) rfl ?_
    refine w_gI (q := 38) hx (dc kJ5_append_cf1ce_0 21 rfl) ff_J4_3 lk_J5_79 rfl (fun v9 => ?_)
    refine j_iload_n (q := 39) hx (dc kJ5_append_cf1ce_0 22 rfl) rfl 0 rfl rfl ?_
    refine j_iadd (q := 40) hx (dc kJ5_append_cf1ce_0 23 rfl) rfl ?_
    refine w_sI (q := 43) hx (dc kJ5_append_cf1ce_0 24 rfl) ff_J4_3 rfl lk_J5_79 (Or.inl rfl) rfl (fun h10 => ?_)
    refine j_aload_n (q := 44) hx (dc kJ5_append_cf1ce_0 25 rfl) rfl 1 rfl rfl ?_
    exact r_aW hx (Or.inl ⟨_, rfl⟩) hR (dc kJ5_append_cf1ce_0 26 rfl)
  · refine j_aload_n (q := 5) hx (dc kJ5_append_cf1ce_0 2 rfl) rfl 0 rfl rfl ?_
    exact j_none

set_option maxHeartbeats 4000000 in
set_option maxRecDepth 100000 in
theorem sJ4_append_15ec4 (l : Launch) (w : Wd) (x0 : Nat) (x1 : Nat) (h : Hp) (u : (Nat × Hp)) (hK : mJ4_append_15ec4 x0 x1 h = some u) : M1 l w mi_J4_append_15ec4 5 [vR w x0, vR w x1] h u.2 (some (vR w u.1)) := by
  refine M1.of (own := RJ4) (T := fun _ r => r = u) hK (by decide +kernel) rfl (by first | (simp only [lg_lenR, lg_lenI, lg_lenL, lg_len0]; decide) | decide) (fun x hx hnl hhf hl hw hret hnm hQ h0e => ⟨?_, rfl⟩)
  subst hw
  subst hl
  have hR : Rt x h u.2 (some (vR x.2.2.2 u.1)) ((some (.object "java/lang/StringBuilder"))) := ⟨h0e, hhf, hret, hQ⟩
  have hn : ∀ i, i < 2 → i < x.2.2.1.1.1 := fun i hi => by rw [hnl]; exact hi
  have e0 : lv_args 0 [vR x.2.2.2 x0, vR x.2.2.2 x1] = [(0, vR x.2.2.2 x0), (1, vR x.2.2.2 x1)] := by simp only [lv_argsR, lv_argsI, lv_argsL, lv_args0]
  rw [e0]
  unfold mJ4_append_15ec4
  refine J.ckd fun hck => ?_
  refine j_aload_n (q := 1) hx (dc kJ4_append_15ec4_0 0 rfl) rfl 0 rfl rfl ?_
  refine j_aload_n (q := 2) hx (dc kJ4_append_15ec4_0 1 rfl) rfl 1 rfl rfl ?_
  refine w_cPRW (q := 5) (As := [vR x.2.2.2 x1]) (st := []) hx (dc kJ4_append_15ec4_0 2 rfl) cf16 (by decide) (cp_J4_29 (by decide)) rfl (fun u hu => sJ5_append_cf1ce _ _ _ _ _ _ hu) (fun e => ite_ne (by unfold mJ5_append_cf1ce at e; exact e)) (Nat.zero_le _) rfl (fun v1 h2 => ?_)
  refine j_pop (q := 6) hx (dc kJ4_append_15ec4_0 3 rfl) (vR_cat _ _) rfl ?_
  refine j_aload_n (q := 7) hx (dc kJ4_append_15ec4_0 4 rfl) rfl 0 rfl rfl ?_
  exact r_aW hx (Or.inl ⟨_, rfl⟩) hR (dc kJ4_append_15ec4_0 5 rfl)

set_option maxHeartbeats 4000000 in
set_option maxRecDepth 100000 in
theorem sJ5_isLatin1_aae02 (l : Launch) (w : Wd) (x0 : Nat) (h : Hp) (u : Int32) (hK : mJ5_isLatin1_aae02 x0 h = some u) : M1 l w mi_J5_isLatin1_aae02 1 [vR w x0] h h (some (.int u)) := by
  refine M1.of (own := RJ5) (T := fun _ r => r = u) hK (by decide +kernel) rfl (by first | (simp only [lg_lenR, lg_lenI, lg_lenL, lg_len0]; decide) | decide) (fun x hx hnl hhf hl hw hret hnm hQ h0e => ⟨?_, rfl⟩)
  subst hw
  subst hl
  have hR : Rt x h h (some (.int u)) ((some .boolean)) := ⟨h0e, hhf, hret, hQ⟩
  have hn : ∀ i, i < 1 → i < x.2.2.1.1.1 := fun i hi => by rw [hnl]; exact hi
  have e0 : lv_args 0 [vR x.2.2.2 x0] = [(0, vR x.2.2.2 x0)] := by simp only [lv_argsR, lv_argsI, lv_argsL, lv_args0]
  rw [e0]
  unfold mJ5_isLatin1_aae02
  refine J.ckd fun hck => ?_
  refine j_gsC (q := 3) hx (dc kJ5_isLatin1_aae02_0 0 rfl) lsf_J5_18 rfl ?_
  refine j_if_eq (q := 6) (tgt := 17) hx (dc kJ5_isLatin1_aae02_0 1 rfl) (by decide) Iff.rfl rfl ?_ ?_
  · refine j_iconst (q := 18) (v := (0 : Int32)) hx (dc kJ5_isLatin1_aae02_0 7 rfl) (by decide) rfl ?_
    exact r_cR hx (Or.inl rfl) hR (dc kJ5_isLatin1_aae02_0 8 rfl)
  · refine j_aload_n (q := 7) hx (dc kJ5_isLatin1_aae02_0 2 rfl) rfl 0 rfl rfl ?_
    refine w_gI (q := 10) hx (dc kJ5_isLatin1_aae02_0 3 rfl) ff_J4_1 lk_J5_22 rfl (fun v1 => ?_)
    refine j_if_neS (q := 13) (tgt := 17) hx (dc kJ5_isLatin1_aae02_0 4 rfl) (by decide) rfl ?_ ?_
    · refine j_iconst (q := 18) (v := (0 : Int32)) hx (dc kJ5_isLatin1_aae02_0 7 rfl) (by decide) rfl ?_
      exact r_cR hx (Or.inl rfl) hR (dc kJ5_isLatin1_aae02_0 8 rfl)
    · refine j_iconst (q := 14) (v := (1 : Int32)) hx (dc kJ5_isLatin1_aae02_0 5 rfl) (by decide) rfl ?_
      refine j_goto (q := 18) hx (dc kJ5_isLatin1_aae02_0 6 rfl) (by decide) ?_
      exact r_cR hx (Or.inr rfl) hR (dc kJ5_isLatin1_aae02_0 8 rfl)

set_option maxHeartbeats 4000000 in
set_option maxRecDepth 100000 in
theorem sJ1_canEncode_fc78d (l : Launch) (w : Wd) (x0 : Int32) (h : Hp) (u : Int32) (hK : mJ1_canEncode_fc78d x0 = some u) : M1 l w mi_J1_canEncode_fc78d 1 [.int x0] h h (some (.int u)) := by
  refine M1.of (own := RJ1) (T := fun _ r => r = u) hK (by decide +kernel) rfl (by first | (simp only [lg_lenR, lg_lenI, lg_lenL, lg_len0]; decide) | decide) (fun x hx hnl hhf hl hw hret hnm hQ h0e => ⟨?_, rfl⟩)
  subst hw
  subst hl
  have hR : Rt x h h (some (.int u)) ((some .boolean)) := ⟨h0e, hhf, hret, hQ⟩
  have hn : ∀ i, i < 1 → i < x.2.2.1.1.1 := fun i hi => by rw [hnl]; exact hi
  have e0 : lv_args 0 [.int x0] = [(0, .int x0)] := by simp only [lv_argsR, lv_argsI, lv_argsL, lv_args0]
  rw [e0]
  unfold mJ1_canEncode_fc78d
  refine j_iload_n (q := 1) hx (dc kJ1_canEncode_fc78d_0 0 rfl) rfl 0 rfl rfl ?_
  refine j_sipush (q := 4) (v := (255 : Int32)) hx (dc kJ1_canEncode_fc78d_0 1 rfl) (by decide) rfl ?_
  refine j_icmp_gt (q := 7) (tgt := 11) hx (dc kJ1_canEncode_fc78d_0 2 rfl) (by decide) Iff.rfl rfl ?_ ?_
  · refine j_iconst (q := 12) (v := (0 : Int32)) hx (dc kJ1_canEncode_fc78d_0 5 rfl) (by decide) rfl ?_
    exact r_cR hx (Or.inl rfl) hR (dc kJ1_canEncode_fc78d_0 6 rfl)
  · refine j_iconst (q := 8) (v := (1 : Int32)) hx (dc kJ1_canEncode_fc78d_0 3 rfl) (by decide) rfl ?_
    refine j_goto (q := 12) hx (dc kJ1_canEncode_fc78d_0 4 rfl) (by decide) ?_
    exact r_cR hx (Or.inr rfl) hR (dc kJ1_canEncode_fc78d_0 6 rfl)

set_option maxHeartbeats 4000000 in
set_option maxRecDepth 100000 in
theorem sJ5_append_3fe6f (l : Launch) (w : Wd) (x0 : Nat) (x1 : Int32) (h : Hp) (u : (Nat × Hp)) (hK : mJ5_append_3fe6f x0 x1 h = some u) : M1 l w mi_J5_append_3fe6f 4 [vR w x0, .int x1] h u.2 (some (vR w u.1)) := by
  refine M1.of (own := RJ5) (T := fun _ r => r = u) hK (by decide +kernel) rfl (by first | (simp only [lg_lenR, lg_lenI, lg_lenL, lg_len0]; decide) | decide) (fun x hx hnl hhf hl hw hret hnm hQ h0e => ⟨?_, rfl⟩)
  subst hw
  subst hl
  have hR : Rt x h u.2 (some (vR x.2.2.2 u.1)) ((some (.object "java/lang/AbstractStringBuilder"))) := ⟨h0e, hhf, hret, hQ⟩
  have hn : ∀ i, i < 2 → i < x.2.2.1.1.1 := fun i hi => by rw [hnl]; exact hi
  have e0 : lv_args 0 [vR x.2.2.2 x0, .int x1] = [(0, vR x.2.2.2 x0), (1, .int x1)] := by simp only [lv_argsR, lv_argsI, lv_argsL, lv_args0]
  rw [e0]
  have hb45 : ∀ (x0 : Nat) (x1 : Int32) (h : Hp), J x 45 [(0, vR x.2.2.2 x0), (1, .int x1)] [] h (mJ5_append_3fe6f_b45 x0 x1 h) (fun r => r = u) := by
    intro x0 x1 h
    unfold mJ5_append_3fe6f_b45
    refine j_aload_n (q := 46) hx (dc kJ5_append_3fe6f_0 25 rfl) rfl 0 rfl rfl ?_
    refine w_cUIR (q := 49) (As := []) (st := []) hx (dc kJ5_append_3fe6f_0 26 rfl) cf16 (by decide) (cu_J5_83 (by decide)) rfl (fun u hu => sJ5_isLatin1_aae02 _ _ _ _ _ hu) (fun e => ite_ne (by unfold mJ5_isLatin1_aae02 at e; exact e)) (Nat.zero_le _) rfl (fun v6 => ?_)
    refine j_if_eq (q := 52) (tgt := 56) hx (dc kJ5_append_3fe6f_0 27 rfl) (by decide) Iff.rfl rfl ?_ ?_
    · refine j_aload_n (q := 57) hx (dc kJ5_append_3fe6f_0 30 rfl) rfl 0 rfl rfl ?_
      refine w_gR (q := 60) hx (dc kJ5_append_3fe6f_0 31 rfl) ff_J4_0 lk_J5_15 rfl (fun v8 => ?_)
      refine j_aload_n (q := 61) hx (dc kJ5_append_3fe6f_0 32 rfl) rfl 0 rfl rfl ?_
      refine j_dup (q := 62) hx (dc kJ5_append_3fe6f_0 33 rfl) (vR_cat _ _) rfl ?_
      refine w_gI (q := 65) hx (dc kJ5_append_3fe6f_0 34 rfl) ff_J4_3 lk_J5_79 rfl (fun v9 => ?_)
      refine j_dup_x1 (q := 66) hx (dc kJ5_append_3fe6f_0 35 rfl) rfl (vR_cat _ _) rfl ?_
      refine j_iconst (q := 67) (v := (1 : Int32)) hx (dc kJ5_append_3fe6f_0 36 rfl) (by decide) rfl ?_
      refine j_iadd (q := 68) hx (dc kJ5_append_3fe6f_0 37 rfl) rfl ?_
      refine w_sI (q := 71) hx (dc kJ5_append_3fe6f_0 38 rfl) ff_J4_3 rfl lk_J5_79 (Or.inl rfl) rfl (fun h10 => ?_)
      refine j_iload_n (q := 72) hx (dc kJ5_append_3fe6f_0 39 rfl) rfl 1 rfl rfl ?_
      exact j_none
    · refine j_aload_n (q := 53) hx (dc kJ5_append_3fe6f_0 28 rfl) rfl 0 rfl rfl ?_
      exact j_none
  unfold mJ5_append_3fe6f
  refine J.ckd fun hck => ?_
  refine j_aload_n (q := 1) hx (dc kJ5_append_3fe6f_0 0 rfl) rfl 0 rfl rfl ?_
  refine j_aload_n (q := 2) hx (dc kJ5_append_3fe6f_0 1 rfl) rfl 0 rfl rfl ?_
  refine w_gI (q := 5) hx (dc kJ5_append_3fe6f_0 2 rfl) ff_J4_3 lk_J5_79 rfl (fun v1 => ?_)
  refine j_iconst (q := 6) (v := (1 : Int32)) hx (dc kJ5_append_3fe6f_0 3 rfl) (by decide) rfl ?_
  refine j_iadd (q := 7) hx (dc kJ5_append_3fe6f_0 4 rfl) rfl ?_
  refine w_cUVW (q := 10) (As := [.int (v1 + (1 : Int32))]) (st := []) hx (dc kJ5_append_3fe6f_0 5 rfl) cf16 (by decide) (cu_J5_100 (by decide)) rfl (fun u hu => sJ5_ensureCapacityInternal_d00df _ _ _ _ _ _ hu) (fun e => ite_ne (by unfold mJ5_ensureCapacityInternal_d00df at e; exact e)) (Nat.zero_le _) rfl (fun h3 => ?_)
  refine j_aload_n (q := 11) hx (dc kJ5_append_3fe6f_0 6 rfl) rfl 0 rfl rfl ?_
  refine w_cUIR (q := 14) (As := []) (st := []) hx (dc kJ5_append_3fe6f_0 7 rfl) cf16 (by decide) (cu_J5_83 (by decide)) rfl (fun u hu => sJ5_isLatin1_aae02 _ _ _ _ _ hu) (fun e => ite_ne (by unfold mJ5_isLatin1_aae02 at e; exact e)) (Nat.zero_le _) rfl (fun v4 => ?_)
  refine j_if_eq (q := 17) (tgt := 45) hx (dc kJ5_append_3fe6f_0 8 rfl) (by decide) Iff.rfl rfl ?_ ?_
  · exact hb45 x0 x1 h3
  · refine j_iload_n (q := 18) hx (dc kJ5_append_3fe6f_0 9 rfl) rfl 1 rfl rfl ?_
    refine w_cSIR (q := 21) (As := [.int x1]) (st := []) hx (dc kJ5_append_3fe6f_0 10 rfl) (cI _ my_J1_canEncode_fc78d lm_J5_191 (by decide)) st_J1_canEncode_fc78d rfl (fun u hu => sJ1_canEncode_fc78d _ _ _ _ _ hu) (Nat.zero_le _) rfl (fun v11 => ?_)
    refine j_if_eq (q := 24) (tgt := 45) hx (dc kJ5_append_3fe6f_0 11 rfl) (by decide) Iff.rfl rfl ?_ ?_
    · exact hb45 x0 x1 h3
    · refine j_aload_n (q := 25) hx (dc kJ5_append_3fe6f_0 12 rfl) rfl 0 rfl rfl ?_
      refine w_gR (q := 28) hx (dc kJ5_append_3fe6f_0 13 rfl) ff_J4_0 lk_J5_15 rfl (fun v13 => ?_)
      refine j_aload_n (q := 29) hx (dc kJ5_append_3fe6f_0 14 rfl) rfl 0 rfl rfl ?_
      refine j_dup (q := 30) hx (dc kJ5_append_3fe6f_0 15 rfl) (vR_cat _ _) rfl ?_
      refine w_gI (q := 33) hx (dc kJ5_append_3fe6f_0 16 rfl) ff_J4_3 lk_J5_79 rfl (fun v14 => ?_)
      refine j_dup_x1 (q := 34) hx (dc kJ5_append_3fe6f_0 17 rfl) rfl (vR_cat _ _) rfl ?_
      refine j_iconst (q := 35) (v := (1 : Int32)) hx (dc kJ5_append_3fe6f_0 18 rfl) (by decide) rfl ?_
      refine j_iadd (q := 36) hx (dc kJ5_append_3fe6f_0 19 rfl) rfl ?_
      refine w_sI (q := 39) hx (dc kJ5_append_3fe6f_0 20 rfl) ff_J4_3 rfl lk_J5_79 (Or.inl rfl) rfl (fun h15 => ?_)
      refine j_iload_n (q := 40) hx (dc kJ5_append_3fe6f_0 21 rfl) rfl 1 rfl rfl ?_
      refine j_i2b (q := 41) hx (dc kJ5_append_3fe6f_0 22 rfl) rfl ?_
      refine w_stB (q := 42) hx (dc kJ5_append_3fe6f_0 23 rfl) rfl (fun h16 => ?_)
      refine j_goto (q := 75) hx (dc kJ5_append_3fe6f_0 24 rfl) (by decide) ?_
      refine j_aload_n (q := 76) hx (dc kJ5_append_3fe6f_0 41 rfl) rfl 0 rfl rfl ?_
      exact r_aW hx (Or.inl ⟨_, rfl⟩) hR (dc kJ5_append_3fe6f_0 42 rfl)

set_option maxHeartbeats 4000000 in
set_option maxRecDepth 100000 in
theorem sJ4_append_cf468 (l : Launch) (w : Wd) (x0 : Nat) (x1 : Int32) (h : Hp) (u : (Nat × Hp)) (hK : mJ4_append_cf468 x0 x1 h = some u) : M1 l w mi_J4_append_cf468 5 [vR w x0, .int x1] h u.2 (some (vR w u.1)) := by
  refine M1.of (own := RJ4) (T := fun _ r => r = u) hK (by decide +kernel) rfl (by first | (simp only [lg_lenR, lg_lenI, lg_lenL, lg_len0]; decide) | decide) (fun x hx hnl hhf hl hw hret hnm hQ h0e => ⟨?_, rfl⟩)
  subst hw
  subst hl
  have hR : Rt x h u.2 (some (vR x.2.2.2 u.1)) ((some (.object "java/lang/StringBuilder"))) := ⟨h0e, hhf, hret, hQ⟩
  have hn : ∀ i, i < 2 → i < x.2.2.1.1.1 := fun i hi => by rw [hnl]; exact hi
  have e0 : lv_args 0 [vR x.2.2.2 x0, .int x1] = [(0, vR x.2.2.2 x0), (1, .int x1)] := by simp only [lv_argsR, lv_argsI, lv_argsL, lv_args0]
  rw [e0]
  unfold mJ4_append_cf468
  refine J.ckd fun hck => ?_
  refine j_aload_n (q := 1) hx (dc kJ4_append_cf468_0 0 rfl) rfl 0 rfl rfl ?_
  refine j_iload_n (q := 2) hx (dc kJ4_append_cf468_0 1 rfl) rfl 1 rfl rfl ?_
  refine w_cPRW (q := 5) (As := [.int x1]) (st := []) hx (dc kJ4_append_cf468_0 2 rfl) cf16 (by decide) (cp_J4_50 (by decide)) rfl (fun u hu => sJ5_append_3fe6f _ _ _ _ _ _ hu) (fun e => ite_ne (by unfold mJ5_append_3fe6f at e; exact e)) (Nat.zero_le _) rfl (fun v1 h2 => ?_)
  refine j_pop (q := 6) hx (dc kJ4_append_cf468_0 3 rfl) (vR_cat _ _) rfl ?_
  refine j_aload_n (q := 7) hx (dc kJ4_append_cf468_0 4 rfl) rfl 0 rfl rfl ?_
  exact r_aW hx (Or.inl ⟨_, rfl⟩) hR (dc kJ4_append_cf468_0 5 rfl)

set_option maxHeartbeats 4000000 in
set_option maxRecDepth 100000 in
theorem sJ5_getValue_6d5f1 (l : Launch) (w : Wd) (x0 : Nat) (h : Hp) (u : Nat) (hK : mJ5_getValue_6d5f1 x0 h = some u) : M1 l w mi_J5_getValue_6d5f1 1 [vR w x0] h h (some (vR w u)) := by
  refine M1.of (own := RJ5) (T := fun _ r => r = u) hK (by decide +kernel) rfl (by first | (simp only [lg_lenR, lg_lenI, lg_lenL, lg_len0]; decide) | decide) (fun x hx hnl hhf hl hw hret hnm hQ h0e => ⟨?_, rfl⟩)
  subst hw
  subst hl
  have hR : Rt x h h (some (vR x.2.2.2 u)) ((some (.array .byte))) := ⟨h0e, hhf, hret, hQ⟩
  have hn : ∀ i, i < 1 → i < x.2.2.1.1.1 := fun i hi => by rw [hnl]; exact hi
  have e0 : lv_args 0 [vR x.2.2.2 x0] = [(0, vR x.2.2.2 x0)] := by simp only [lv_argsR, lv_argsI, lv_argsL, lv_args0]
  rw [e0]
  unfold mJ5_getValue_6d5f1
  refine J.ckd fun hck => ?_
  refine j_aload_n (q := 1) hx (dc kJ5_getValue_6d5f1_0 0 rfl) rfl 0 rfl rfl ?_
  refine w_gR (q := 4) hx (dc kJ5_getValue_6d5f1_0 1 rfl) ff_J4_0 lk_J5_15 rfl (fun v1 => ?_)
  exact r_aR hx (Or.inr ⟨_, rfl⟩) hR (dc kJ5_getValue_6d5f1_0 2 rfl)

set_option maxHeartbeats 4000000 in
set_option maxRecDepth 100000 in
theorem sJ5_length_8abf5 (l : Launch) (w : Wd) (x0 : Nat) (h : Hp) (u : Int32) (hK : mJ5_length_8abf5 x0 h = some u) : M1 l w mi_J5_length_8abf5 1 [vR w x0] h h (some (.int u)) := by
  refine M1.of (own := RJ5) (T := fun _ r => r = u) hK (by decide +kernel) rfl (by first | (simp only [lg_lenR, lg_lenI, lg_lenL, lg_len0]; decide) | decide) (fun x hx hnl hhf hl hw hret hnm hQ h0e => ⟨?_, rfl⟩)
  subst hw
  subst hl
  have hR : Rt x h h (some (.int u)) ((some .int)) := ⟨h0e, hhf, hret, hQ⟩
  have hn : ∀ i, i < 1 → i < x.2.2.1.1.1 := fun i hi => by rw [hnl]; exact hi
  have e0 : lv_args 0 [vR x.2.2.2 x0] = [(0, vR x.2.2.2 x0)] := by simp only [lv_argsR, lv_argsI, lv_argsL, lv_args0]
  rw [e0]
  unfold mJ5_length_8abf5
  refine J.ckd fun hck => ?_
  refine j_aload_n (q := 1) hx (dc kJ5_length_8abf5_0 0 rfl) rfl 0 rfl rfl ?_
  refine w_gI (q := 4) hx (dc kJ5_length_8abf5_0 1 rfl) ff_J4_3 lk_J5_79 rfl (fun v1 => ?_)
  exact r_iR hx hR (dc kJ5_length_8abf5_0 2 rfl)

set_option maxHeartbeats 4000000 in
set_option maxRecDepth 100000 in
theorem sJ4_length_8abf5 (l : Launch) (w : Wd) (x0 : Nat) (h : Hp) (u : Int32) (hK : mJ4_length_8abf5 x0 h = some u) : M1 l w mi_J4_length_8abf5 2 [vR w x0] h h (some (.int u)) := by
  refine M1.of (own := RJ4) (T := fun _ r => r = u) hK (by decide +kernel) rfl (by first | (simp only [lg_lenR, lg_lenI, lg_lenL, lg_len0]; decide) | decide) (fun x hx hnl hhf hl hw hret hnm hQ h0e => ⟨?_, rfl⟩)
  subst hw
  subst hl
  have hR : Rt x h h (some (.int u)) ((some .int)) := ⟨h0e, hhf, hret, hQ⟩
  have hn : ∀ i, i < 1 → i < x.2.2.1.1.1 := fun i hi => by rw [hnl]; exact hi
  have e0 : lv_args 0 [vR x.2.2.2 x0] = [(0, vR x.2.2.2 x0)] := by simp only [lv_argsR, lv_argsI, lv_argsL, lv_args0]
  rw [e0]
  unfold mJ4_length_8abf5
  refine J.ckd fun hck => ?_
  refine j_aload_n (q := 1) hx (dc kJ4_length_8abf5_0 0 rfl) rfl 0 rfl rfl ?_
  refine w_cPIR (q := 4) (As := []) (st := []) hx (dc kJ4_length_8abf5_0 1 rfl) cf16 (by decide) (cp_J4_343 (by decide)) rfl (fun u hu => sJ5_length_8abf5 _ _ _ _ _ hu) (fun e => ite_ne (by unfold mJ5_length_8abf5 at e; exact e)) (Nat.zero_le _) rfl (fun v1 => ?_)
  exact r_iR hx hR (dc kJ4_length_8abf5_0 2 rfl)

set_option maxHeartbeats 4000000 in
set_option maxRecDepth 100000 in
theorem sJ7_checkLength_df160 (l : Launch) (w : Wd) (x0 : Int32) (x1 : Int32) (h : Hp) (u : Unit) (hK : mJ7_checkLength_df160 x0 x1 = some u) : M1 l w mi_J7_checkLength_df160 1 [.int x0, .int x1] h h (none) := by
  refine M1.of (own := RJ7) (T := fun _ r => r = u) hK (by decide +kernel) rfl (by first | (simp only [lg_lenR, lg_lenI, lg_lenL, lg_len0]; decide) | decide) (fun x hx hnl hhf hl hw hret hnm hQ h0e => ⟨?_, rfl⟩)
  subst hw
  subst hl
  have hR : Rt x h h (none) (none) := ⟨h0e, hhf, hret, hQ⟩
  have hn : ∀ i, i < 2 → i < x.2.2.1.1.1 := fun i hi => by rw [hnl]; exact hi
  have e0 : lv_args 0 [.int x0, .int x1] = [(0, .int x0), (1, .int x1)] := by simp only [lv_argsR, lv_argsI, lv_argsL, lv_args0]
  rw [e0]
  unfold mJ7_checkLength_df160
  refine j_iload_n (q := 1) hx (dc kJ7_checkLength_df160_0 0 rfl) rfl 1 rfl rfl ?_
  refine j_iload_n (q := 2) hx (dc kJ7_checkLength_df160_0 1 rfl) rfl 0 rfl rfl ?_
  refine j_icmp_geS (q := 5) (tgt := 37) hx (dc kJ7_checkLength_df160_0 2 rfl) (by decide) rfl ?_ ?_
  · exact r_vR hx hR (dc kJ7_checkLength_df160_0 17 rfl)
  · exact j_none

set_option maxHeartbeats 4000000 in
set_option maxRecDepth 100000 in
theorem sJ7_copyOfRangeByte_39247 (l : Launch) (w : Wd) (x0 : Nat) (x1 : Int32) (x2 : Int32) (h : Hp) (u : (Nat × Hp)) (hK : mJ7_copyOfRangeByte_39247 x0 x1 x2 h = some u) : M1 l w mi_J7_copyOfRangeByte_39247 2 [vR w x0, .int x1, .int x2] h u.2 (some (vR w u.1)) := by
  refine M1.of (own := RJ7) (T := fun _ r => r = u) hK (by decide +kernel) rfl (by first | (simp only [lg_lenR, lg_lenI, lg_lenL, lg_len0]; decide) | decide) (fun x hx hnl hhf hl hw hret hnm hQ h0e => ⟨?_, rfl⟩)
  subst hw
  subst hl
  have hR : Rt x h u.2 (some (vR x.2.2.2 u.1)) ((some (.array .byte))) := ⟨h0e, hhf, hret, hQ⟩
  have hn : ∀ i, i < 5 → i < x.2.2.1.1.1 := fun i hi => by rw [hnl]; exact hi
  have e0 : lv_args 0 [vR x.2.2.2 x0, .int x1, .int x2] = [(0, vR x.2.2.2 x0), (1, .int x1), (2, .int x2)] := by simp only [lv_argsR, lv_argsI, lv_argsL, lv_args0]
  rw [e0]
  unfold mJ7_copyOfRangeByte_39247
  refine j_iload_n (q := 1) hx (dc kJ7_copyOfRangeByte_39247_0 0 rfl) rfl 1 rfl rfl ?_
  refine j_iload_n (q := 2) hx (dc kJ7_copyOfRangeByte_39247_0 1 rfl) rfl 2 rfl rfl ?_
  refine w_cSVR (q := 5) (As := [.int x1, .int x2]) (st := []) hx (dc kJ7_copyOfRangeByte_39247_0 2 rfl) (cI _ my_J7_checkLength_df160 lm_J7_343 (by decide)) st_J7_checkLength_df160 rfl (fun u hu => sJ7_checkLength_df160 _ _ _ _ _ _ hu) (Nat.zero_le _) rfl (fun _ => ?_)
  refine j_iload_n (q := 6) hx (dc kJ7_copyOfRangeByte_39247_0 3 rfl) rfl 2 rfl rfl ?_
  refine j_iload_n (q := 7) hx (dc kJ7_copyOfRangeByte_39247_0 4 rfl) rfl 1 rfl rfl ?_
  refine j_isub (q := 8) hx (dc kJ7_copyOfRangeByte_39247_0 5 rfl) rfl ?_
  refine j_istore_n (q := 9) (i := 3) (l2 := [(0, vR x.2.2.2 x0), (1, .int x1)]) hx (dc kJ7_copyOfRangeByte_39247_0 6 rfl) rfl (hn 3 (by decide)) [0, 1] rfl ⟨⟨show (0 : Nat) ≠ 3 by decide, Or.inl (show (0 : Nat) + 1 ≠ 3 by decide)⟩, ⟨⟨show (1 : Nat) ≠ 3 by decide, Or.inl (show (1 : Nat) + 1 ≠ 3 by decide)⟩, trivial⟩⟩ rfl ?_
  refine j_iload_n (q := 10) hx (dc kJ7_copyOfRangeByte_39247_0 7 rfl) rfl 0 rfl rfl ?_
  refine j_newarray53 (q := 12) hx (dc kJ7_copyOfRangeByte_39247_0 8 rfl) ac_B rfl (fun v4 hvv4 h3 => ?_)
  refine j_astore (q := 14) (i := 4) (l2 := [(3, .int (x2 - x1)), (0, vR x.2.2.2 x0), (1, .int x1)]) hx (dc kJ7_copyOfRangeByte_39247_0 9 rfl) (hn 4 (by decide)) [0, 1, 2] rfl ⟨⟨show (3 : Nat) ≠ 4 by decide, Or.inr rfl⟩, ⟨⟨show (0 : Nat) ≠ 4 by decide, Or.inl (show (0 : Nat) + 1 ≠ 4 by decide)⟩, ⟨⟨show (1 : Nat) ≠ 4 by decide, Or.inl (show (1 : Nat) + 1 ≠ 4 by decide)⟩, trivial⟩⟩⟩ rfl ?_
  refine j_aload_n (q := 15) hx (dc kJ7_copyOfRangeByte_39247_0 10 rfl) rfl 2 rfl rfl ?_
  refine j_iload_n (q := 16) hx (dc kJ7_copyOfRangeByte_39247_0 11 rfl) rfl 3 rfl rfl ?_
  refine j_aload (q := 18) hx (dc kJ7_copyOfRangeByte_39247_0 12 rfl) 0 rfl rfl ?_
  refine j_iconst (q := 19) (v := (0 : Int32)) hx (dc kJ7_copyOfRangeByte_39247_0 13 rfl) (by decide) rfl ?_
  refine j_aload_n (q := 20) hx (dc kJ7_copyOfRangeByte_39247_0 14 rfl) rfl 2 rfl rfl ?_
  refine j_bLn (q := 21) hx (dc kJ7_copyOfRangeByte_39247_0 15 rfl) rfl (fun v5 => ?_)
  refine j_iload_n (q := 22) hx (dc kJ7_copyOfRangeByte_39247_0 16 rfl) rfl 3 rfl rfl ?_
  refine j_isub (q := 23) hx (dc kJ7_copyOfRangeByte_39247_0 17 rfl) rfl ?_
  refine j_iload_n (q := 24) hx (dc kJ7_copyOfRangeByte_39247_0 18 rfl) rfl 1 rfl rfl ?_
  refine w_mmin (q := 27) hx (dc kJ7_copyOfRangeByte_39247_0 19 rfl) lm_J7_304 ms_mmin ms_init mc_mmin (by decide) (sum_le (sum_I (sum_R (sum_I (sum_R sum_nil)))) (by decide)) rfl ?_
  refine j_cpB (q := 30) hx (dc kJ7_copyOfRangeByte_39247_0 20 rfl) lm_J7_150 nat_ac (by decide) (Nat.zero_le _) rfl (fun h6 => ?_)
  refine j_aload (q := 32) hx (dc kJ7_copyOfRangeByte_39247_0 21 rfl) 0 rfl rfl ?_
  exact r_aW hx (Or.inr ⟨_, rfl⟩) hR (dc kJ7_copyOfRangeByte_39247_0 22 rfl)

set_option maxHeartbeats 4000000 in
set_option maxRecDepth 100000 in
theorem sJ7_copyOfRange_39247 (l : Launch) (w : Wd) (x0 : Nat) (x1 : Int32) (x2 : Int32) (h : Hp) (u : (Nat × Hp)) (hK : mJ7_copyOfRange_39247 x0 x1 x2 h = some u) : M1 l w mi_J7_copyOfRange_39247 3 [vR w x0, .int x1, .int x2] h u.2 (some (vR w u.1)) := by
  refine M1.of (own := RJ7) (T := fun _ r => r = u) hK (by decide +kernel) rfl (by first | (simp only [lg_lenR, lg_lenI, lg_lenL, lg_len0]; decide) | decide) (fun x hx hnl hhf hl hw hret hnm hQ h0e => ⟨?_, rfl⟩)
  subst hw
  subst hl
  have hR : Rt x h u.2 (some (vR x.2.2.2 u.1)) ((some (.array .byte))) := ⟨h0e, hhf, hret, hQ⟩
  have hn : ∀ i, i < 3 → i < x.2.2.1.1.1 := fun i hi => by rw [hnl]; exact hi
  have e0 : lv_args 0 [vR x.2.2.2 x0, .int x1, .int x2] = [(0, vR x.2.2.2 x0), (1, .int x1), (2, .int x2)] := by simp only [lv_argsR, lv_argsI, lv_argsL, lv_args0]
  rw [e0]
  have hb10 : ∀ (x0 : Nat) (x1 : Int32) (x2 : Int32) (h : Hp), J x 10 [(0, vR x.2.2.2 x0), (1, .int x1), (2, .int x2)] [] h (mJ7_copyOfRange_39247_b10 x0 x1 x2 h) (fun r => r = u) := by
    intro x0 x1 x2 h
    unfold mJ7_copyOfRange_39247_b10
    refine j_aload_n (q := 11) hx (dc kJ7_copyOfRange_39247_0 6 rfl) rfl 0 rfl rfl ?_
    refine j_iload_n (q := 12) hx (dc kJ7_copyOfRange_39247_0 7 rfl) rfl 1 rfl rfl ?_
    refine j_iload_n (q := 13) hx (dc kJ7_copyOfRange_39247_0 8 rfl) rfl 2 rfl rfl ?_
    refine w_cSRW (q := 16) (As := [vR x.2.2.2 x0, .int x1, .int x2]) (st := []) hx (dc kJ7_copyOfRange_39247_0 9 rfl) (cI _ my_J7_copyOfRangeByte_39247 lm_J7_339 (by decide)) st_J7_copyOfRangeByte_39247 rfl (fun u hu => sJ7_copyOfRangeByte_39247 _ _ _ _ _ _ _ hu) (Nat.zero_le _) rfl (fun v1 h2 => ?_)
    exact r_aW hx (Or.inr ⟨_, rfl⟩) hR (dc kJ7_copyOfRange_39247_0 10 rfl)
  unfold mJ7_copyOfRange_39247
  refine j_iload_n (q := 1) hx (dc kJ7_copyOfRange_39247_0 0 rfl) rfl 1 rfl rfl ?_
  refine j_if_neS (q := 4) (tgt := 10) hx (dc kJ7_copyOfRange_39247_0 1 rfl) (by decide) rfl ?_ ?_
  · exact hb10 x0 x1 x2 h
  · refine j_iload_n (q := 5) hx (dc kJ7_copyOfRange_39247_0 2 rfl) rfl 2 rfl rfl ?_
    refine j_aload_n (q := 6) hx (dc kJ7_copyOfRange_39247_0 3 rfl) rfl 0 rfl rfl ?_
    refine j_bLn (q := 7) hx (dc kJ7_copyOfRange_39247_0 4 rfl) rfl (fun v3 => ?_)
    refine j_icmp_eq (q := 10) (tgt := 17) hx (dc kJ7_copyOfRange_39247_0 5 rfl) (by decide) Iff.rfl rfl ?_ ?_
    · refine j_aload_n (q := 18) hx (dc kJ7_copyOfRange_39247_0 11 rfl) rfl 0 rfl rfl ?_
      refine j_clB (q := 21) hx (dc kJ7_copyOfRange_39247_0 12 rfl) ncl_J7_310 (by decide) (Nat.zero_le _) rfl (fun v5 hvv5 h4 => ?_)
      refine j_ckB (q := 24) hx (dc kJ7_copyOfRange_39247_0 13 rfl) cb_J7_311 rfl ?_
      exact r_aW hx (Or.inr ⟨_, rfl⟩) hR (dc kJ7_copyOfRange_39247_0 14 rfl)
    · exact hb10 x0 x1 x2 h

set_option maxHeartbeats 4000000 in
set_option maxRecDepth 100000 in
theorem sJ0_init_db425 {x0 : Nat} (hvx0 : x0 ≠ 0) (l : Launch) (w : Wd) (x1 : Nat) (x2 : Nat) (h : Hp) (u : Hp) (hK : mJ0_init_db425 x0 x1 x2 h = some u) : M1 l w mi_J0_init_db425 4 [vR w x0, vR w x1, vR w x2] h u (none) := by
  refine M1.of (own := RJ0) (T := fun _ r => r = u) hK (by decide +kernel) rfl (by first | (simp only [lg_lenR, lg_lenI, lg_lenL, lg_len0]; decide) | decide) (fun x hx hnl hhf hl hw hret hnm hQ h0e => ⟨?_, rfl⟩)
  subst hw
  subst hl
  have hR : Rt x h u (none) (none) := ⟨h0e, hhf, hret, hQ⟩
  have hn : ∀ i, i < 5 → i < x.2.2.1.1.1 := fun i hi => by rw [hnl]; exact hi
  have e0 : lv_args 0 [vR x.2.2.2 x0, vR x.2.2.2 x1, vR x.2.2.2 x2] = [(0, vR x.2.2.2 x0), (1, vR x.2.2.2 x1), (2, vR x.2.2.2 x2)] := by simp only [lv_argsR, lv_argsI, lv_argsL, lv_args0]
  rw [e0]
  have hb79 : ∀ (x0 : Nat) (x3 : Nat) (x4 : Int32) (h : Hp), J x 79 [(0, vR x.2.2.2 x0), (3, vR x.2.2.2 x3), (4, .int x4)] [] h (mJ0_init_db425_b79 x0 x3 x4 h) (fun r => r = u) := by
    intro x0 x3 x4 h
    unfold mJ0_init_db425_b79
    refine j_aload_n (q := 80) hx (dc kJ0_init_db425_0 39 rfl) rfl 0 rfl rfl ?_
    refine j_iconst (q := 81) (v := (1 : Int32)) hx (dc kJ0_init_db425_0 40 rfl) (by decide) rfl ?_
    refine w_sB (q := 84) hx (dc kJ0_init_db425_0 41 rfl) ff_J0_1 rfl lk_J0_15 (Or.inr ⟨hnm, rfl, rfl, lt_J0_15⟩) rfl (fun h7 => ?_)
    refine j_aload_n (q := 85) hx (dc kJ0_init_db425_0 42 rfl) rfl 0 rfl rfl ?_
    refine j_aload_n (q := 86) hx (dc kJ0_init_db425_0 43 rfl) rfl 1 rfl rfl ?_
    refine j_iconst (q := 87) (v := (0 : Int32)) hx (dc kJ0_init_db425_0 44 rfl) (by decide) rfl ?_
    refine j_iload (q := 89) hx (dc kJ0_init_db425_0 45 rfl) 2 rfl rfl ?_
    refine j_iconst (q := 90) (v := (1 : Int32)) hx (dc kJ0_init_db425_0 46 rfl) (by decide) rfl ?_
    refine j_ishl (q := 91) hx (dc kJ0_init_db425_0 47 rfl) rfl ?_
    refine w_cSRW (q := 94) (As := [vR x.2.2.2 x3, .int (0 : Int32), .int (x4 <<< ((1 : Int32) &&& 31))]) (st := [vR x.2.2.2 x0]) hx (dc kJ0_init_db425_0 48 rfl) (cI _ my_J7_copyOfRange_39247 lm_J0_54 (by decide)) st_J7_copyOfRange_39247 rfl (fun u hu => sJ7_copyOfRange_39247 _ _ _ _ _ _ _ hu) (sum_le (sum_R sum_nil) (by decide)) rfl (fun v8 h9 => ?_)
    refine w_sR (q := 97) hx (dc kJ0_init_db425_0 49 rfl) ff_J0_0 lk_J0_9 (Or.inr ⟨hnm, rfl, rfl, lt_J0_9⟩) rfl (fun h10 => ?_)
    exact r_vW hx hR (dc kJ0_init_db425_0 50 rfl)
  unfold mJ0_init_db425
  refine j_aload_n (q := 1) hx (dc kJ0_init_db425_0 0 rfl) rfl 0 rfl rfl ?_
  refine j_obj (q := 4) hx (dc kJ0_init_db425_0 1 rfl) lo_J0_1 hvx0 (by decide) (Nat.zero_le _) rfl ?_
  refine j_aload_n (q := 5) hx (dc kJ0_init_db425_0 2 rfl) rfl 1 rfl rfl ?_
  refine w_cURR (q := 8) (As := []) (st := []) hx (dc kJ0_init_db425_0 3 rfl) cf16 (by decide) (cu_J0_552 (by decide)) rfl (fun u hu => sJ5_getValue_6d5f1 _ _ _ _ _ hu) (fun e => ite_ne (by unfold mJ5_getValue_6d5f1 at e; exact e)) (Nat.zero_le _) rfl (fun v1 => ?_)
  refine j_astore_n (q := 9) (i := 3) (l2 := [(0, vR x.2.2.2 x0), (1, vR x.2.2.2 x1)]) hx (dc kJ0_init_db425_0 4 rfl) rfl (hn 3 (by decide)) [0, 1] rfl ⟨⟨show (0 : Nat) ≠ 3 by decide, Or.inl (show (0 : Nat) + 1 ≠ 3 by decide)⟩, ⟨⟨show (1 : Nat) ≠ 3 by decide, Or.inl (show (1 : Nat) + 1 ≠ 3 by decide)⟩, trivial⟩⟩ rfl ?_
  refine j_aload_n (q := 10) hx (dc kJ0_init_db425_0 5 rfl) rfl 2 rfl rfl ?_
  refine w_cUIR (q := 13) (As := []) (st := []) hx (dc kJ0_init_db425_0 6 rfl) cf16 (by decide) (cu_J0_549 (by decide)) rfl (fun u hu => sJ4_length_8abf5 _ _ _ _ _ hu) (fun e => ite_ne (by unfold mJ4_length_8abf5 at e; exact e)) (Nat.zero_le _) rfl (fun v3 => ?_)
  refine j_istore (q := 15) (i := 4) (l2 := [(3, vR x.2.2.2 v1), (0, vR x.2.2.2 x0), (1, vR x.2.2.2 x1)]) hx (dc kJ0_init_db425_0 7 rfl) (hn 4 (by decide)) [0, 1, 2] rfl ⟨⟨show (3 : Nat) ≠ 4 by decide, Or.inr (vR_cat _ _)⟩, ⟨⟨show (0 : Nat) ≠ 4 by decide, Or.inl (show (0 : Nat) + 1 ≠ 4 by decide)⟩, ⟨⟨show (1 : Nat) ≠ 4 by decide, Or.inl (show (1 : Nat) + 1 ≠ 4 by decide)⟩, trivial⟩⟩⟩ rfl ?_
  refine j_aload_n (q := 16) hx (dc kJ0_init_db425_0 8 rfl) rfl 3 rfl rfl ?_
  refine w_cUIR (q := 19) (As := []) (st := []) hx (dc kJ0_init_db425_0 9 rfl) cf16 (by decide) (cu_J0_1047 (by decide)) rfl (fun u hu => sJ5_isLatin1_aae02 _ _ _ _ _ hu) (fun e => ite_ne (by unfold mJ5_isLatin1_aae02 at e; exact e)) (Nat.zero_le _) rfl (fun v5 => ?_)
  refine j_if_eq (q := 22) (tgt := 41) hx (dc kJ0_init_db425_0 10 rfl) (by decide) Iff.rfl rfl ?_ ?_
  · refine j_gsC (q := 44) hx (dc kJ0_init_db425_0 21 rfl) lsf_J0_38 rfl ?_
    refine j_if_eq (q := 47) (tgt := 79) hx (dc kJ0_init_db425_0 22 rfl) (by decide) Iff.rfl rfl ?_ ?_
    · exact j_sub [2, 1, 0] rfl (hb79 x0 v1 v3 h)
    · refine j_aload_n (q := 48) hx (dc kJ0_init_db425_0 23 rfl) rfl 3 rfl rfl ?_
      refine w_gI (q := 51) hx (dc kJ0_init_db425_0 24 rfl) ff_J4_2 lk_J0_1048 rfl (fun v11 => ?_)
      refine j_if_eq (q := 54) (tgt := 79) hx (dc kJ0_init_db425_0 25 rfl) (by decide) Iff.rfl rfl ?_ ?_
      · exact j_sub [2, 1, 0] rfl (hb79 x0 v1 v3 h)
      · refine j_aload_n (q := 55) hx (dc kJ0_init_db425_0 26 rfl) rfl 2 rfl rfl ?_
        refine j_aload_n (q := 56) hx (dc kJ0_init_db425_0 27 rfl) rfl 1 rfl rfl ?_
        refine j_iconst (q := 57) (v := (0 : Int32)) hx (dc kJ0_init_db425_0 28 rfl) (by decide) rfl ?_
        refine j_iload (q := 59) hx (dc kJ0_init_db425_0 29 rfl) 0 rfl rfl ?_
        exact j_none
  · refine j_aload_n (q := 23) hx (dc kJ0_init_db425_0 11 rfl) rfl 2 rfl rfl ?_
    refine j_iconst (q := 24) (v := (0 : Int32)) hx (dc kJ0_init_db425_0 12 rfl) (by decide) rfl ?_
    refine w_sB (q := 27) hx (dc kJ0_init_db425_0 13 rfl) ff_J0_1 rfl lk_J0_15 (Or.inr ⟨hnm, rfl, rfl, lt_J0_15⟩) rfl (fun h12 => ?_)
    refine j_aload_n (q := 28) hx (dc kJ0_init_db425_0 14 rfl) rfl 2 rfl rfl ?_
    refine j_aload_n (q := 29) hx (dc kJ0_init_db425_0 15 rfl) rfl 1 rfl rfl ?_
    refine j_iconst (q := 30) (v := (0 : Int32)) hx (dc kJ0_init_db425_0 16 rfl) (by decide) rfl ?_
    refine j_iload (q := 32) hx (dc kJ0_init_db425_0 17 rfl) 0 rfl rfl ?_
    refine w_cSRW (q := 35) (As := [vR x.2.2.2 v1, .int (0 : Int32), .int v3]) (st := [vR x.2.2.2 x0]) hx (dc kJ0_init_db425_0 18 rfl) (cI _ my_J7_copyOfRange_39247 lm_J0_54 (by decide)) st_J7_copyOfRange_39247 rfl (fun u hu => sJ7_copyOfRange_39247 _ _ _ _ _ _ _ hu) (sum_le (sum_R sum_nil) (by decide)) rfl (fun v13 h14 => ?_)
    refine w_sR (q := 38) hx (dc kJ0_init_db425_0 19 rfl) ff_J0_0 lk_J0_9 (Or.inr ⟨hnm, rfl, rfl, lt_J0_9⟩) rfl (fun h15 => ?_)
    refine j_goto (q := 97) hx (dc kJ0_init_db425_0 20 rfl) (by decide) ?_
    exact r_vW hx hR (dc kJ0_init_db425_0 50 rfl)

set_option maxHeartbeats 4000000 in
set_option maxRecDepth 100000 in
theorem sJ0_init_81219 {x0 : Nat} (hvx0 : x0 ≠ 0) (l : Launch) (w : Wd) (x1 : Nat) (h : Hp) (u : Hp) (hK : mJ0_init_81219 x0 x1 h = some u) : M1 l w mi_J0_init_81219 5 [vR w x0, vR w x1] h u (none) := by
  refine M1.of (own := RJ0) (T := fun _ r => r = u) hK (by decide +kernel) rfl (by first | (simp only [lg_lenR, lg_lenI, lg_lenL, lg_len0]; decide) | decide) (fun x hx hnl hhf hl hw hret hnm hQ h0e => ⟨?_, rfl⟩)
  subst hw
  subst hl
  have hR : Rt x h u (none) (none) := ⟨h0e, hhf, hret, hQ⟩
  have hn : ∀ i, i < 2 → i < x.2.2.1.1.1 := fun i hi => by rw [hnl]; exact hi
  have e0 : lv_args 0 [vR x.2.2.2 x0, vR x.2.2.2 x1] = [(0, vR x.2.2.2 x0), (1, vR x.2.2.2 x1)] := by simp only [lv_argsR, lv_argsI, lv_argsL, lv_args0]
  rw [e0]
  unfold mJ0_init_81219
  refine j_aload_n (q := 1) hx (dc kJ0_init_81219_0 0 rfl) rfl 0 rfl rfl ?_
  refine j_aload_n (q := 2) hx (dc kJ0_init_81219_0 1 rfl) rfl 1 rfl rfl ?_
  refine j_null (q := 3) hx (dc kJ0_init_81219_0 2 rfl) rfl ?_
  refine w_cIVW (q := 6) (As := [vR x.2.2.2 x1, vR x.2.2.2 0]) (st := []) hx (dc kJ0_init_81219_0 3 rfl) (cI _ my_J0_init_db425 lm_J0_489 (by decide)) is_J0_init_db425 rfl rfl (fun u hu => sJ0_init_db425 hvx0 _ _ _ _ _ _ hu) hvx0 (Nat.zero_le _) rfl (fun h2 => ?_)
  exact r_vW hx hR (dc kJ0_init_81219_0 4 rfl)

set_option maxHeartbeats 4000000 in
set_option maxRecDepth 100000 in
theorem sJ4_toString_0e30d (l : Launch) (w : Wd) (x0 : Nat) (h : Hp) (u : (Nat × Hp)) (hK : mJ4_toString_0e30d x0 h = some u) : M1 l w mi_J4_toString_0e30d 6 [vR w x0] h u.2 (some (vR w u.1)) := by
  refine M1.of (own := RJ4) (T := fun _ r => r = u) hK (by decide +kernel) rfl (by first | (simp only [lg_lenR, lg_lenI, lg_lenL, lg_len0]; decide) | decide) (fun x hx hnl hhf hl hw hret hnm hQ h0e => ⟨?_, rfl⟩)
  subst hw
  subst hl
  have hR : Rt x h u.2 (some (vR x.2.2.2 u.1)) ((some (.object "java/lang/String"))) := ⟨h0e, hhf, hret, hQ⟩
  have hn : ∀ i, i < 1 → i < x.2.2.1.1.1 := fun i hi => by rw [hnl]; exact hi
  have e0 : lv_args 0 [vR x.2.2.2 x0] = [(0, vR x.2.2.2 x0)] := by simp only [lv_argsR, lv_argsI, lv_argsL, lv_args0]
  rw [e0]
  unfold mJ4_toString_0e30d
  refine J.ckd fun hck => ?_
  refine j_new (q := 3) hx (dc kJ4_toString_0e30d_0 0 rfl) cf17 (by decide) nw_J4_18 rfl (fun v2 hvv2 h1 => ?_)
  refine j_dup (q := 4) hx (dc kJ4_toString_0e30d_0 1 rfl) (vR_cat _ _) rfl ?_
  refine j_aload_n (q := 5) hx (dc kJ4_toString_0e30d_0 2 rfl) rfl 0 rfl rfl ?_
  refine w_cIVW (q := 8) (As := [vR x.2.2.2 x0]) (st := [vR x.2.2.2 v2]) hx (dc kJ4_toString_0e30d_0 3 rfl) (cI _ my_J0_init_81219 lm_J4_137 (by decide)) is_J0_init_81219 rfl rfl (fun u hu => sJ0_init_81219 hvv2 _ _ _ _ _ hu) hvv2 (sum_le (sum_R sum_nil) (by decide)) rfl (fun h4 => ?_)
  exact r_aW hx (Or.inl ⟨_, rfl⟩) hR (dc kJ4_toString_0e30d_0 4 rfl)

set_option maxHeartbeats 4000000 in
set_option maxRecDepth 100000 in
theorem sJ6_stringSize_0f7a4 (l : Launch) (w : Wd) (x0 : Int32) (h : Hp) (u : Int32) (hK : mJ6_stringSize_0f7a4 x0 = some u) : M1 l w mi_J6_stringSize_0f7a4 1 [.int x0] h h (some (.int u)) := by
  refine M1.of (own := RJ6) (T := fun _ r => r = u) hK (by decide +kernel) rfl (by first | (simp only [lg_lenR, lg_lenI, lg_lenL, lg_len0]; decide) | decide) (fun x hx hnl hhf hl hw hret hnm hQ h0e => ⟨?_, rfl⟩)
  subst hw
  subst hl
  have hR : Rt x h h (some (.int u)) ((some .int)) := ⟨h0e, hhf, hret, hQ⟩
  have hn : ∀ i, i < 4 → i < x.2.2.1.1.1 := fun i hi => by rw [hnl]; exact hi
  have e0 : lv_args 0 [.int x0] = [(0, .int x0)] := by simp only [lv_argsR, lv_argsI, lv_argsL, lv_args0]
  rw [e0]
  have hb16 : ∀ (x0 : Int32) (x1 : Int32) (x2 : Int32) (x3 : Int32), J x 16 [(0, .int x0), (1, .int x1), (2, .int x2), (3, .int x3)] [] h (mJ6_stringSize_0f7a4_l16 x0 x1 x2 x3) (fun r => r = u) := by
    intro x0 x1 x2 x3
    have hB : ∀ (x2 : Int32) (x3 : Int32), J x 16 [(0, .int x0), (1, .int x1), (2, .int x2), (3, .int x3)] [] h (mJ6_stringSize_0f7a4_l16f x0 x1 x2 x3) (TLo (S := (Int32 × Int32)) x 16 (fun s => [(0, .int x0), (1, .int x1), (2, .int s.1), (3, .int s.2)]) [] (fun s => h) (fun r => r = u)) := by
      intro x2 x3
      unfold mJ6_stringSize_0f7a4_l16f
      refine j_iload_n (q := 17) hx (dc kJ6_stringSize_0f7a4_0 13 rfl) rfl 3 rfl rfl ?_
      refine j_bipush (q := 19) (v := (10 : Int32)) hx (dc kJ6_stringSize_0f7a4_0 14 rfl) (by decide) rfl ?_
      refine j_icmp_geS (q := 22) (tgt := 42) hx (dc kJ6_stringSize_0f7a4_0 15 rfl) (by decide) rfl ?_ ?_
      · refine j_exit ?_
        refine j_bipush (q := 44) (v := (10 : Int32)) hx (dc kJ6_stringSize_0f7a4_0 29 rfl) (by decide) rfl ?_
        refine j_iload_n (q := 45) hx (dc kJ6_stringSize_0f7a4_0 30 rfl) rfl 1 rfl rfl ?_
        refine j_iadd (q := 46) hx (dc kJ6_stringSize_0f7a4_0 31 rfl) rfl ?_
        exact r_iR hx hR (dc kJ6_stringSize_0f7a4_0 32 rfl)
      · refine j_iload_n (q := 23) hx (dc kJ6_stringSize_0f7a4_0 16 rfl) rfl 0 rfl rfl ?_
        refine j_iload_n (q := 24) hx (dc kJ6_stringSize_0f7a4_0 17 rfl) rfl 2 rfl rfl ?_
        refine j_icmp_leS (q := 27) (tgt := 31) hx (dc kJ6_stringSize_0f7a4_0 18 rfl) (by decide) rfl ?_ ?_
        · refine j_bipush (q := 33) (v := (10 : Int32)) hx (dc kJ6_stringSize_0f7a4_0 23 rfl) (by decide) rfl ?_
          refine j_iload_n (q := 34) hx (dc kJ6_stringSize_0f7a4_0 24 rfl) rfl 2 rfl rfl ?_
          refine j_imul (q := 35) hx (dc kJ6_stringSize_0f7a4_0 25 rfl) rfl ?_
          refine j_istore_n (q := 36) (i := 2) (l2 := [(0, .int x0), (1, .int x1), (3, .int x3)]) hx (dc kJ6_stringSize_0f7a4_0 26 rfl) rfl (hn 2 (by decide)) [0, 1, 3] rfl ⟨⟨show (0 : Nat) ≠ 2 by decide, Or.inl (show (0 : Nat) + 1 ≠ 2 by decide)⟩, ⟨⟨show (1 : Nat) ≠ 2 by decide, Or.inr rfl⟩, ⟨⟨show (3 : Nat) ≠ 2 by decide, Or.inl (show (3 : Nat) + 1 ≠ 2 by decide)⟩, trivial⟩⟩⟩ rfl ?_
          refine j_iinc (q := 39) (l2 := [(2, .int ((10 : Int32) * x2)), (0, .int x0), (1, .int x1)]) hx (dc kJ6_stringSize_0f7a4_0 27 rfl) 3 rfl (v := (1 : Int32)) (by decide) (hn 3 (by decide)) [0, 1, 2] rfl ⟨⟨show (2 : Nat) ≠ 3 by decide, Or.inr rfl⟩, ⟨⟨show (0 : Nat) ≠ 3 by decide, Or.inl (show (0 : Nat) + 1 ≠ 3 by decide)⟩, ⟨⟨show (1 : Nat) ≠ 3 by decide, Or.inl (show (1 : Nat) + 1 ≠ 3 by decide)⟩, trivial⟩⟩⟩ rfl ?_
          refine j_goto (q := 16) hx (dc kJ6_stringSize_0f7a4_0 28 rfl) (by decide) ?_
          exact j_back [2, 3, 1, 0] (((10 : Int32) * x2), (x3 + (1 : Int32))) rfl rfl
        · refine j_exit ?_
          refine j_iload_n (q := 28) hx (dc kJ6_stringSize_0f7a4_0 19 rfl) rfl 3 rfl rfl ?_
          refine j_iload_n (q := 29) hx (dc kJ6_stringSize_0f7a4_0 20 rfl) rfl 1 rfl rfl ?_
          refine j_iadd (q := 30) hx (dc kJ6_stringSize_0f7a4_0 21 rfl) rfl ?_
          exact r_iR hx hR (dc kJ6_stringSize_0f7a4_0 22 rfl)
    exact j_loop (S := (Int32 × Int32)) (lvf := fun s => [(0, .int x0), (1, .int x1), (2, .int s.1), (3, .int s.2)]) (hpf := fun s => h) (f := (fun s : (Int32 × Int32) => mJ6_stringSize_0f7a4_l16f x0 x1 s.1 s.2)) (fun s => hB s.1 s.2) (x2, x3)
  have hb11 : ∀ (x0 : Int32) (x1 : Int32), J x 11 [(0, .int x0), (1, .int x1)] [] h (mJ6_stringSize_0f7a4_b11 x0 x1) (fun r => r = u) := by
    intro x0 x1
    unfold mJ6_stringSize_0f7a4_b11
    refine j_bipush (q := 13) (v := (-10 : Int32)) hx (dc kJ6_stringSize_0f7a4_0 9 rfl) (by decide) rfl ?_
    refine j_istore_n (q := 14) (i := 2) (l2 := [(0, .int x0), (1, .int x1)]) hx (dc kJ6_stringSize_0f7a4_0 10 rfl) rfl (hn 2 (by decide)) [0, 1] rfl ⟨⟨show (0 : Nat) ≠ 2 by decide, Or.inl (show (0 : Nat) + 1 ≠ 2 by decide)⟩, ⟨⟨show (1 : Nat) ≠ 2 by decide, Or.inr rfl⟩, trivial⟩⟩ rfl ?_
    refine j_iconst (q := 15) (v := (1 : Int32)) hx (dc kJ6_stringSize_0f7a4_0 11 rfl) (by decide) rfl ?_
    refine j_istore_n (q := 16) (i := 3) (l2 := [(2, .int (-10 : Int32)), (0, .int x0), (1, .int x1)]) hx (dc kJ6_stringSize_0f7a4_0 12 rfl) rfl (hn 3 (by decide)) [0, 1, 2] rfl ⟨⟨show (2 : Nat) ≠ 3 by decide, Or.inr rfl⟩, ⟨⟨show (0 : Nat) ≠ 3 by decide, Or.inl (show (0 : Nat) + 1 ≠ 3 by decide)⟩, ⟨⟨show (1 : Nat) ≠ 3 by decide, Or.inl (show (1 : Nat) + 1 ≠ 3 by decide)⟩, trivial⟩⟩⟩ rfl ?_
    exact j_sub [2, 3, 1, 0] rfl (hb16 x0 x1 (-10 : Int32) (1 : Int32))
  unfold mJ6_stringSize_0f7a4
  refine j_iconst (q := 1) (v := (1 : Int32)) hx (dc kJ6_stringSize_0f7a4_0 0 rfl) (by decide) rfl ?_
  refine j_istore_n (q := 2) (i := 1) (l2 := [(0, .int x0)]) hx (dc kJ6_stringSize_0f7a4_0 1 rfl) rfl (hn 1 (by decide)) [0] rfl ⟨⟨show (0 : Nat) ≠ 1 by decide, Or.inr rfl⟩, trivial⟩ rfl ?_
  refine j_iload_n (q := 3) hx (dc kJ6_stringSize_0f7a4_0 2 rfl) rfl 1 rfl rfl ?_
  refine j_if_lt (q := 6) (tgt := 11) hx (dc kJ6_stringSize_0f7a4_0 3 rfl) (by decide) Iff.rfl rfl ?_ ?_
  · exact j_sub [1, 0] rfl (hb11 x0 (1 : Int32))
  · refine j_iconst (q := 7) (v := (0 : Int32)) hx (dc kJ6_stringSize_0f7a4_0 4 rfl) (by decide) rfl ?_
    refine j_istore_n (q := 8) (i := 1) (l2 := [(0, .int x0)]) hx (dc kJ6_stringSize_0f7a4_0 5 rfl) rfl (hn 1 (by decide)) [1] rfl ⟨⟨show (0 : Nat) ≠ 1 by decide, Or.inr rfl⟩, trivial⟩ rfl ?_
    refine j_iload_n (q := 9) hx (dc kJ6_stringSize_0f7a4_0 6 rfl) rfl 1 rfl rfl ?_
    refine j_ineg (q := 10) hx (dc kJ6_stringSize_0f7a4_0 7 rfl) rfl ?_
    refine j_istore_n (q := 11) (i := 0) (l2 := [(1, .int (0 : Int32))]) hx (dc kJ6_stringSize_0f7a4_0 8 rfl) rfl (hn 0 (by decide)) [0] rfl ⟨⟨show (1 : Nat) ≠ 0 by decide, Or.inl (show (1 : Nat) + 1 ≠ 0 by decide)⟩, trivial⟩ rfl ?_
    exact hb11 (-x0) (0 : Int32)

set_option maxHeartbeats 4000000 in
set_option maxRecDepth 100000 in
theorem sJ6_getChars_ba4f3 (l : Launch) (w : Wd) (x0 : Int32) (x1 : Int32) (x2 : Nat) (h : Hp) (u : (Int32 × Hp)) (hK : mJ6_getChars_ba4f3 x0 x1 x2 h = some u) : M1 l w mi_J6_getChars_ba4f3 1 [.int x0, .int x1, vR w x2] h u.2 (some (.int u.1)) := by
  refine M1.of (own := RJ6) (T := fun _ r => r = u) hK (by decide +kernel) rfl (by first | (simp only [lg_lenR, lg_lenI, lg_lenL, lg_len0]; decide) | decide) (fun x hx hnl hhf hl hw hret hnm hQ h0e => ⟨?_, rfl⟩)
  subst hw
  subst hl
  have hR : Rt x h u.2 (some (.int u.1)) ((some .int)) := ⟨h0e, hhf, hret, hQ⟩
  have hn : ∀ i, i < 7 → i < x.2.2.1.1.1 := fun i hi => by rw [hnl]; exact hi
  have e0 : lv_args 0 [.int x0, .int x1, vR x.2.2.2 x2] = [(0, .int x0), (1, .int x1), (2, vR x.2.2.2 x2)] := by simp only [lv_argsR, lv_argsI, lv_argsL, lv_args0]
  rw [e0]
  have hb104 : ∀ (x2 : Nat) (x5 : Int32) (x6 : Int32) (h : Hp), J x 104 [(2, vR x.2.2.2 x2), (5, .int x5), (6, .int x6)] [] h (mJ6_getChars_ba4f3_b104 x2 x5 x6 h) (fun r => r = u) := by
    intro x2 x5 x6 h
    unfold mJ6_getChars_ba4f3_b104
    refine j_iload (q := 106) hx (dc kJ6_getChars_ba4f3_0 62 rfl) 2 rfl rfl ?_
    refine j_if_eq (q := 109) (tgt := 118) hx (dc kJ6_getChars_ba4f3_0 63 rfl) (by decide) Iff.rfl rfl ?_ ?_
    · refine j_iload (q := 120) hx (dc kJ6_getChars_ba4f3_1 5 rfl) 1 rfl rfl ?_
      exact r_iW hx hR (dc kJ6_getChars_ba4f3_1 6 rfl)
    · refine j_aload_n (q := 110) hx (dc kJ6_getChars_ba4f3_1 0 rfl) rfl 0 rfl rfl ?_
      refine j_iinc (q := 113) (l2 := []) hx (dc kJ6_getChars_ba4f3_1 1 rfl) 1 rfl (v := (-1 : Int32)) (by decide) (hn 5 (by decide)) [] rfl trivial rfl ?_
      refine j_iload (q := 115) hx (dc kJ6_getChars_ba4f3_1 2 rfl) 0 rfl rfl ?_
      refine j_bipush (q := 117) (v := (45 : Int32)) hx (dc kJ6_getChars_ba4f3_1 3 rfl) (by decide) rfl ?_
      refine w_stB (q := 118) hx (dc kJ6_getChars_ba4f3_1 4 rfl) rfl (fun h3 => ?_)
      refine j_iload (q := 120) hx (dc kJ6_getChars_ba4f3_1 5 rfl) 0 rfl rfl ?_
      exact r_iW hx hR (dc kJ6_getChars_ba4f3_1 6 rfl)
  have hb22 : ∀ (x0 : Int32) (x2 : Nat) (x5 : Int32) (x6 : Int32) (h : Hp), J x 22 [(0, .int x0), (2, vR x.2.2.2 x2), (5, .int x5), (6, .int x6)] [] h (mJ6_getChars_ba4f3_l22 x0 x2 x5 x6 h) (fun r => r = u) := by
    intro x0 x2 x5 x6 h
    have hB : ∀ (x0 : Int32) (x5 : Int32) (h : Hp), J x 22 [(0, .int x0), (2, vR x.2.2.2 x2), (5, .int x5), (6, .int x6)] [] h (mJ6_getChars_ba4f3_l22f x2 x6 x0 x5 h) (TLo (S := (Int32 × Int32 × Hp)) x 22 (fun s => [(0, .int s.1), (2, vR x.2.2.2 x2), (5, .int s.2.1), (6, .int x6)]) [] (fun s => s.2.2) (fun r => r = u)) := by
      intro x0 x5 h
      unfold mJ6_getChars_ba4f3_l22f
      refine j_iload_n (q := 23) hx (dc kJ6_getChars_ba4f3_0 13 rfl) rfl 0 rfl rfl ?_
      refine j_bipush (q := 25) (v := (-100 : Int32)) hx (dc kJ6_getChars_ba4f3_0 14 rfl) (by decide) rfl ?_
      refine j_icmp_gt (q := 28) (tgt := 72) hx (dc kJ6_getChars_ba4f3_0 15 rfl) (by decide) Iff.rfl rfl ?_ ?_
      · refine j_exit ?_
        refine j_aload_n (q := 73) hx (dc kJ6_getChars_ba4f3_0 43 rfl) rfl 1 rfl rfl ?_
        refine j_iinc (q := 76) (l2 := [(0, .int x0), (2, vR x.2.2.2 x2), (6, .int x6)]) hx (dc kJ6_getChars_ba4f3_0 44 rfl) 2 rfl (v := (-1 : Int32)) (by decide) (hn 5 (by decide)) [0, 1, 3] rfl ⟨⟨show (0 : Nat) ≠ 5 by decide, Or.inl (show (0 : Nat) + 1 ≠ 5 by decide)⟩, ⟨⟨show (2 : Nat) ≠ 5 by decide, Or.inl (show (2 : Nat) + 1 ≠ 5 by decide)⟩, ⟨⟨show (6 : Nat) ≠ 5 by decide, Or.inl (show (6 : Nat) + 1 ≠ 5 by decide)⟩, trivial⟩⟩⟩ rfl ?_
        refine j_iload (q := 78) hx (dc kJ6_getChars_ba4f3_0 45 rfl) 0 rfl rfl ?_
        refine j_gs (a := 6) (q := 81) hx (dc kJ6_getChars_ba4f3_0 46 rfl) gs_J6_83 gz_6 rfl ?_
        refine j_iload_n (q := 82) hx (dc kJ6_getChars_ba4f3_0 47 rfl) rfl 1 rfl rfl ?_
        refine j_ineg (q := 83) hx (dc kJ6_getChars_ba4f3_0 48 rfl) rfl ?_
        refine j_bLd (q := 84) hx (dc kJ6_getChars_ba4f3_0 49 rfl) rfl (fun v1 => ?_)
        refine w_stB (q := 85) hx (dc kJ6_getChars_ba4f3_0 50 rfl) rfl (fun h2 => ?_)
        refine j_iload_n (q := 86) hx (dc kJ6_getChars_ba4f3_0 51 rfl) rfl 1 rfl rfl ?_
        refine j_bipush (q := 88) (v := (-9 : Int32)) hx (dc kJ6_getChars_ba4f3_0 52 rfl) (by decide) rfl ?_
        refine j_icmp_geS (q := 91) (tgt := 104) hx (dc kJ6_getChars_ba4f3_0 53 rfl) (by decide) rfl ?_ ?_
        · exact j_sub [2, 0, 3] rfl (hb104 x2 (x5 + (-1 : Int32)) x6 h2)
        · refine j_aload_n (q := 92) hx (dc kJ6_getChars_ba4f3_0 54 rfl) rfl 2 rfl rfl ?_
          refine j_iinc (q := 95) (l2 := [(0, .int x0), (2, vR x.2.2.2 x2), (6, .int x6)]) hx (dc kJ6_getChars_ba4f3_0 55 rfl) 0 rfl (v := (-1 : Int32)) (by decide) (hn 5 (by decide)) [1, 2, 3] rfl ⟨⟨show (0 : Nat) ≠ 5 by decide, Or.inl (show (0 : Nat) + 1 ≠ 5 by decide)⟩, ⟨⟨show (2 : Nat) ≠ 5 by decide, Or.inl (show (2 : Nat) + 1 ≠ 5 by decide)⟩, ⟨⟨show (6 : Nat) ≠ 5 by decide, Or.inl (show (6 : Nat) + 1 ≠ 5 by decide)⟩, trivial⟩⟩⟩ rfl ?_
          refine j_iload (q := 97) hx (dc kJ6_getChars_ba4f3_0 56 rfl) 0 rfl rfl ?_
          refine j_gs (a := 5) (q := 100) hx (dc kJ6_getChars_ba4f3_0 57 rfl) gs_J6_87 gz_5 rfl ?_
          refine j_iload_n (q := 101) hx (dc kJ6_getChars_ba4f3_0 58 rfl) rfl 1 rfl rfl ?_
          refine j_ineg (q := 102) hx (dc kJ6_getChars_ba4f3_0 59 rfl) rfl ?_
          refine j_bLd (q := 103) hx (dc kJ6_getChars_ba4f3_0 60 rfl) rfl (fun v4 => ?_)
          refine w_stB (q := 104) hx (dc kJ6_getChars_ba4f3_0 61 rfl) rfl (fun h5 => ?_)
          exact j_sub [2, 0, 3] rfl (hb104 x2 ((x5 + (-1 : Int32)) + (-1 : Int32)) x6 h5)
      · refine j_iload_n (q := 29) hx (dc kJ6_getChars_ba4f3_0 16 rfl) rfl 0 rfl rfl ?_
        refine j_bipush (q := 31) (v := (100 : Int32)) hx (dc kJ6_getChars_ba4f3_0 17 rfl) (by decide) rfl ?_
        refine j_idiv (q := 32) hx (dc kJ6_getChars_ba4f3_0 18 rfl) rfl ?_
        refine j_istore_n (q := 33) (i := 3) (l2 := [(0, .int x0), (2, vR x.2.2.2 x2), (5, .int x5), (6, .int x6)]) hx (dc kJ6_getChars_ba4f3_0 19 rfl) rfl (hn 3 (by decide)) [0, 1, 2, 3] rfl ⟨⟨show (0 : Nat) ≠ 3 by decide, Or.inl (show (0 : Nat) + 1 ≠ 3 by decide)⟩, ⟨⟨show (2 : Nat) ≠ 3 by decide, Or.inr (vR_cat _ _)⟩, ⟨⟨show (5 : Nat) ≠ 3 by decide, Or.inl (show (5 : Nat) + 1 ≠ 3 by decide)⟩, ⟨⟨show (6 : Nat) ≠ 3 by decide, Or.inl (show (6 : Nat) + 1 ≠ 3 by decide)⟩, trivial⟩⟩⟩⟩ rfl ?_
        refine j_iload_n (q := 34) hx (dc kJ6_getChars_ba4f3_0 20 rfl) rfl 0 rfl rfl ?_
        refine j_bipush (q := 36) (v := (100 : Int32)) hx (dc kJ6_getChars_ba4f3_0 21 rfl) (by decide) rfl ?_
        refine j_imul (q := 37) hx (dc kJ6_getChars_ba4f3_0 22 rfl) rfl ?_
        refine j_iload_n (q := 38) hx (dc kJ6_getChars_ba4f3_0 23 rfl) rfl 1 rfl rfl ?_
        refine j_isub (q := 39) hx (dc kJ6_getChars_ba4f3_0 24 rfl) rfl ?_
        refine j_istore (q := 41) (i := 4) (l2 := [(3, .int (x0 / (100 : Int32))), (2, vR x.2.2.2 x2), (5, .int x5), (6, .int x6)]) hx (dc kJ6_getChars_ba4f3_0 25 rfl) (hn 4 (by decide)) [0, 2, 3, 4] rfl ⟨⟨show (3 : Nat) ≠ 4 by decide, Or.inr rfl⟩, ⟨⟨show (2 : Nat) ≠ 4 by decide, Or.inl (show (2 : Nat) + 1 ≠ 4 by decide)⟩, ⟨⟨show (5 : Nat) ≠ 4 by decide, Or.inl (show (5 : Nat) + 1 ≠ 4 by decide)⟩, ⟨⟨show (6 : Nat) ≠ 4 by decide, Or.inl (show (6 : Nat) + 1 ≠ 4 by decide)⟩, trivial⟩⟩⟩⟩ rfl ?_
        refine j_iload_n (q := 42) hx (dc kJ6_getChars_ba4f3_0 26 rfl) rfl 1 rfl rfl ?_
        refine j_istore_n (q := 43) (i := 0) (l2 := [(4, .int (((x0 / (100 : Int32)) * (100 : Int32)) - x0)), (2, vR x.2.2.2 x2), (5, .int x5), (6, .int x6)]) hx (dc kJ6_getChars_ba4f3_0 27 rfl) rfl (hn 0 (by decide)) [0, 2, 3, 4] rfl ⟨⟨show (4 : Nat) ≠ 0 by decide, Or.inl (show (4 : Nat) + 1 ≠ 0 by decide)⟩, ⟨⟨show (2 : Nat) ≠ 0 by decide, Or.inl (show (2 : Nat) + 1 ≠ 0 by decide)⟩, ⟨⟨show (5 : Nat) ≠ 0 by decide, Or.inl (show (5 : Nat) + 1 ≠ 0 by decide)⟩, ⟨⟨show (6 : Nat) ≠ 0 by decide, Or.inl (show (6 : Nat) + 1 ≠ 0 by decide)⟩, trivial⟩⟩⟩⟩ rfl ?_
        refine j_aload_n (q := 44) hx (dc kJ6_getChars_ba4f3_0 28 rfl) rfl 2 rfl rfl ?_
        refine j_iinc (q := 47) (l2 := [(0, .int (x0 / (100 : Int32))), (4, .int (((x0 / (100 : Int32)) * (100 : Int32)) - x0)), (2, vR x.2.2.2 x2), (6, .int x6)]) hx (dc kJ6_getChars_ba4f3_0 29 rfl) 3 rfl (v := (-1 : Int32)) (by decide) (hn 5 (by decide)) [0, 1, 2, 4] rfl ⟨⟨show (0 : Nat) ≠ 5 by decide, Or.inl (show (0 : Nat) + 1 ≠ 5 by decide)⟩, ⟨⟨show (4 : Nat) ≠ 5 by decide, Or.inr rfl⟩, ⟨⟨show (2 : Nat) ≠ 5 by decide, Or.inl (show (2 : Nat) + 1 ≠ 5 by decide)⟩, ⟨⟨show (6 : Nat) ≠ 5 by decide, Or.inl (show (6 : Nat) + 1 ≠ 5 by decide)⟩, trivial⟩⟩⟩⟩ rfl ?_
        refine j_iload (q := 49) hx (dc kJ6_getChars_ba4f3_0 30 rfl) 0 rfl rfl ?_
        refine j_gs (a := 6) (q := 52) hx (dc kJ6_getChars_ba4f3_0 31 rfl) gs_J6_83 gz_6 rfl ?_
        refine j_iload (q := 54) hx (dc kJ6_getChars_ba4f3_0 32 rfl) 2 rfl rfl ?_
        refine j_bLd (q := 55) hx (dc kJ6_getChars_ba4f3_0 33 rfl) rfl (fun v6 => ?_)
        refine w_stB (q := 56) hx (dc kJ6_getChars_ba4f3_0 34 rfl) rfl (fun h7 => ?_)
        refine j_aload_n (q := 57) hx (dc kJ6_getChars_ba4f3_0 35 rfl) rfl 3 rfl rfl ?_
        refine j_iinc (q := 60) (l2 := [(0, .int (x0 / (100 : Int32))), (4, .int (((x0 / (100 : Int32)) * (100 : Int32)) - x0)), (2, vR x.2.2.2 x2), (6, .int x6)]) hx (dc kJ6_getChars_ba4f3_0 36 rfl) 0 rfl (v := (-1 : Int32)) (by decide) (hn 5 (by decide)) [1, 2, 3, 4] rfl ⟨⟨show (0 : Nat) ≠ 5 by decide, Or.inl (show (0 : Nat) + 1 ≠ 5 by decide)⟩, ⟨⟨show (4 : Nat) ≠ 5 by decide, Or.inr rfl⟩, ⟨⟨show (2 : Nat) ≠ 5 by decide, Or.inl (show (2 : Nat) + 1 ≠ 5 by decide)⟩, ⟨⟨show (6 : Nat) ≠ 5 by decide, Or.inl (show (6 : Nat) + 1 ≠ 5 by decide)⟩, trivial⟩⟩⟩⟩ rfl ?_
        refine j_iload (q := 62) hx (dc kJ6_getChars_ba4f3_0 37 rfl) 0 rfl rfl ?_
        refine j_gs (a := 5) (q := 65) hx (dc kJ6_getChars_ba4f3_0 38 rfl) gs_J6_87 gz_5 rfl ?_
        refine j_iload (q := 67) hx (dc kJ6_getChars_ba4f3_0 39 rfl) 2 rfl rfl ?_
        refine j_bLd (q := 68) hx (dc kJ6_getChars_ba4f3_0 40 rfl) rfl (fun v8 => ?_)
        refine w_stB (q := 69) hx (dc kJ6_getChars_ba4f3_0 41 rfl) rfl (fun h9 => ?_)
        refine j_goto (q := 22) hx (dc kJ6_getChars_ba4f3_0 42 rfl) (by decide) ?_
        exact j_back [1, 3, 0, 4] ((x0 / (100 : Int32)), ((x5 + (-1 : Int32)) + (-1 : Int32)), h9) rfl rfl
    exact j_loop (S := (Int32 × Int32 × Hp)) (lvf := fun s => [(0, .int s.1), (2, vR x.2.2.2 x2), (5, .int s.2.1), (6, .int x6)]) (hpf := fun s => s.2.2) (f := (fun s : (Int32 × Int32 × Hp) => mJ6_getChars_ba4f3_l22f x2 x6 s.1 s.2.1 s.2.2)) (fun s => hB s.1 s.2.1 s.2.2) (x0, x5, h)
  have hb12 : ∀ (x0 : Int32) (x2 : Nat) (x5 : Int32) (t0 : Int32) (h : Hp), J x 12 [(0, .int x0), (2, vR x.2.2.2 x2), (5, .int x5)] [.int t0] h (mJ6_getChars_ba4f3_b12 x0 x2 x5 t0 h) (fun r => r = u) := by
    intro x0 x2 x5 t0 h
    unfold mJ6_getChars_ba4f3_b12
    refine j_istore (q := 14) (i := 6) (l2 := [(0, .int x0), (2, vR x.2.2.2 x2), (5, .int x5)]) hx (dc kJ6_getChars_ba4f3_0 7 rfl) (hn 6 (by decide)) [0, 1, 2] rfl ⟨⟨show (0 : Nat) ≠ 6 by decide, Or.inl (show (0 : Nat) + 1 ≠ 6 by decide)⟩, ⟨⟨show (2 : Nat) ≠ 6 by decide, Or.inl (show (2 : Nat) + 1 ≠ 6 by decide)⟩, ⟨⟨show (5 : Nat) ≠ 6 by decide, Or.inr rfl⟩, trivial⟩⟩⟩ rfl ?_
    refine j_iload (q := 16) hx (dc kJ6_getChars_ba4f3_0 8 rfl) 0 rfl rfl ?_
    refine j_if_neS (q := 19) (tgt := 22) hx (dc kJ6_getChars_ba4f3_0 9 rfl) (by decide) rfl ?_ ?_
    · exact j_sub [1, 2, 3, 0] rfl (hb22 x0 x2 x5 t0 h)
    · refine j_iload_n (q := 20) hx (dc kJ6_getChars_ba4f3_0 10 rfl) rfl 1 rfl rfl ?_
      refine j_ineg (q := 21) hx (dc kJ6_getChars_ba4f3_0 11 rfl) rfl ?_
      refine j_istore_n (q := 22) (i := 0) (l2 := [(6, .int t0), (2, vR x.2.2.2 x2), (5, .int x5)]) hx (dc kJ6_getChars_ba4f3_0 12 rfl) rfl (hn 0 (by decide)) [0, 2, 3] rfl ⟨⟨show (6 : Nat) ≠ 0 by decide, Or.inl (show (6 : Nat) + 1 ≠ 0 by decide)⟩, ⟨⟨show (2 : Nat) ≠ 0 by decide, Or.inl (show (2 : Nat) + 1 ≠ 0 by decide)⟩, ⟨⟨show (5 : Nat) ≠ 0 by decide, Or.inl (show (5 : Nat) + 1 ≠ 0 by decide)⟩, trivial⟩⟩⟩ rfl ?_
      exact j_sub [0, 2, 3, 1] rfl (hb22 (-x0) x2 x5 t0 h)
  unfold mJ6_getChars_ba4f3
  refine j_iload_n (q := 1) hx (dc kJ6_getChars_ba4f3_0 0 rfl) rfl 1 rfl rfl ?_
  refine j_istore (q := 3) (i := 5) (l2 := [(0, .int x0), (2, vR x.2.2.2 x2)]) hx (dc kJ6_getChars_ba4f3_0 1 rfl) (hn 5 (by decide)) [0, 2] rfl ⟨⟨show (0 : Nat) ≠ 5 by decide, Or.inl (show (0 : Nat) + 1 ≠ 5 by decide)⟩, ⟨⟨show (2 : Nat) ≠ 5 by decide, Or.inl (show (2 : Nat) + 1 ≠ 5 by decide)⟩, trivial⟩⟩ rfl ?_
  refine j_iload_n (q := 4) hx (dc kJ6_getChars_ba4f3_0 2 rfl) rfl 1 rfl rfl ?_
  refine j_if_geS (q := 7) (tgt := 11) hx (dc kJ6_getChars_ba4f3_0 3 rfl) (by decide) rfl ?_ ?_
  · refine j_iconst (q := 12) (v := (0 : Int32)) hx (dc kJ6_getChars_ba4f3_0 6 rfl) (by decide) rfl ?_
    exact j_sub [1, 2, 0] rfl (hb12 x0 x2 x1 (0 : Int32) h)
  · refine j_iconst (q := 8) (v := (1 : Int32)) hx (dc kJ6_getChars_ba4f3_0 4 rfl) (by decide) rfl ?_
    refine j_goto (q := 12) hx (dc kJ6_getChars_ba4f3_0 5 rfl) (by decide) ?_
    exact j_sub [1, 2, 0] rfl (hb12 x0 x2 x1 (1 : Int32) h)

set_option maxHeartbeats 4000000 in
set_option maxRecDepth 100000 in
theorem sJ5_append_c97b9 (l : Launch) (w : Wd) (x0 : Nat) (x1 : Int32) (h : Hp) (u : (Nat × Hp)) (hK : mJ5_append_c97b9 x0 x1 h = some u) : M1 l w mi_J5_append_c97b9 4 [vR w x0, .int x1] h u.2 (some (vR w u.1)) := by
  refine M1.of (own := RJ5) (T := fun _ r => r = u) hK (by decide +kernel) rfl (by first | (simp only [lg_lenR, lg_lenI, lg_lenL, lg_len0]; decide) | decide) (fun x hx hnl hhf hl hw hret hnm hQ h0e => ⟨?_, rfl⟩)
  subst hw
  subst hl
  have hR : Rt x h u.2 (some (vR x.2.2.2 u.1)) ((some (.object "java/lang/AbstractStringBuilder"))) := ⟨h0e, hhf, hret, hQ⟩
  have hn : ∀ i, i < 4 → i < x.2.2.1.1.1 := fun i hi => by rw [hnl]; exact hi
  have e0 : lv_args 0 [vR x.2.2.2 x0, .int x1] = [(0, vR x.2.2.2 x0), (1, .int x1)] := by simp only [lv_argsR, lv_argsI, lv_argsL, lv_args0]
  rw [e0]
  unfold mJ5_append_c97b9
  refine J.ckd fun hck => ?_
  refine j_aload_n (q := 1) hx (dc kJ5_append_c97b9_0 0 rfl) rfl 0 rfl rfl ?_
  refine w_gI (q := 4) hx (dc kJ5_append_c97b9_0 1 rfl) ff_J4_3 lk_J5_79 rfl (fun v1 => ?_)
  refine j_istore_n (q := 5) (i := 2) (l2 := [(0, vR x.2.2.2 x0), (1, .int x1)]) hx (dc kJ5_append_c97b9_0 2 rfl) rfl (hn 2 (by decide)) [0, 1] rfl ⟨⟨show (0 : Nat) ≠ 2 by decide, Or.inl (show (0 : Nat) + 1 ≠ 2 by decide)⟩, ⟨⟨show (1 : Nat) ≠ 2 by decide, Or.inr rfl⟩, trivial⟩⟩ rfl ?_
  refine j_iload_n (q := 6) hx (dc kJ5_append_c97b9_0 3 rfl) rfl 0 rfl rfl ?_
  refine j_iload_n (q := 7) hx (dc kJ5_append_c97b9_0 4 rfl) rfl 2 rfl rfl ?_
  refine w_cSIR (q := 10) (As := [.int x1]) (st := [.int v1]) hx (dc kJ5_append_c97b9_0 5 rfl) (cI _ my_J6_stringSize_0f7a4 lm_J5_245 (by decide)) st_J6_stringSize_0f7a4 rfl (fun u hu => sJ6_stringSize_0f7a4 _ _ _ _ _ hu) (sum_le (sum_I sum_nil) (by decide)) rfl (fun v2 => ?_)
  refine j_iadd (q := 11) hx (dc kJ5_append_c97b9_0 6 rfl) rfl ?_
  refine j_istore_n (q := 12) (i := 3) (l2 := [(2, .int v1), (0, vR x.2.2.2 x0), (1, .int x1)]) hx (dc kJ5_append_c97b9_0 7 rfl) rfl (hn 3 (by decide)) [0, 1, 2] rfl ⟨⟨show (2 : Nat) ≠ 3 by decide, Or.inr rfl⟩, ⟨⟨show (0 : Nat) ≠ 3 by decide, Or.inl (show (0 : Nat) + 1 ≠ 3 by decide)⟩, ⟨⟨show (1 : Nat) ≠ 3 by decide, Or.inl (show (1 : Nat) + 1 ≠ 3 by decide)⟩, trivial⟩⟩⟩ rfl ?_
  refine j_aload_n (q := 13) hx (dc kJ5_append_c97b9_0 8 rfl) rfl 2 rfl rfl ?_
  refine j_iload_n (q := 14) hx (dc kJ5_append_c97b9_0 9 rfl) rfl 0 rfl rfl ?_
  refine w_cUVW (q := 17) (As := [.int (v1 + v2)]) (st := []) hx (dc kJ5_append_c97b9_0 10 rfl) cf16 (by decide) (cu_J5_100 (by decide)) rfl (fun u hu => sJ5_ensureCapacityInternal_d00df _ _ _ _ _ _ hu) (fun e => ite_ne (by unfold mJ5_ensureCapacityInternal_d00df at e; exact e)) (Nat.zero_le _) rfl (fun h5 => ?_)
  refine j_aload_n (q := 18) hx (dc kJ5_append_c97b9_0 11 rfl) rfl 2 rfl rfl ?_
  refine w_cUIR (q := 21) (As := []) (st := []) hx (dc kJ5_append_c97b9_0 12 rfl) cf16 (by decide) (cu_J5_83 (by decide)) rfl (fun u hu => sJ5_isLatin1_aae02 _ _ _ _ _ hu) (fun e => ite_ne (by unfold mJ5_isLatin1_aae02 at e; exact e)) (Nat.zero_le _) rfl (fun v6 => ?_)
  refine j_if_eq (q := 24) (tgt := 37) hx (dc kJ5_append_c97b9_0 13 rfl) (by decide) Iff.rfl rfl ?_ ?_
  · refine j_iload_n (q := 38) hx (dc kJ5_append_c97b9_0 21 rfl) rfl 3 rfl rfl ?_
    refine j_iload_n (q := 39) hx (dc kJ5_append_c97b9_0 22 rfl) rfl 1 rfl rfl ?_
    refine j_iload_n (q := 40) hx (dc kJ5_append_c97b9_0 23 rfl) rfl 0 rfl rfl ?_
    refine j_aload_n (q := 41) hx (dc kJ5_append_c97b9_0 24 rfl) rfl 2 rfl rfl ?_
    refine w_gR (q := 44) hx (dc kJ5_append_c97b9_0 25 rfl) ff_J4_0 lk_J5_15 rfl (fun v8 => ?_)
    exact j_none
  · refine j_iload_n (q := 25) hx (dc kJ5_append_c97b9_0 14 rfl) rfl 3 rfl rfl ?_
    refine j_iload_n (q := 26) hx (dc kJ5_append_c97b9_0 15 rfl) rfl 0 rfl rfl ?_
    refine j_aload_n (q := 27) hx (dc kJ5_append_c97b9_0 16 rfl) rfl 2 rfl rfl ?_
    refine w_gR (q := 30) hx (dc kJ5_append_c97b9_0 17 rfl) ff_J4_0 lk_J5_15 rfl (fun v9 => ?_)
    refine w_cSIW (q := 33) (As := [.int x1, .int (v1 + v2), vR x.2.2.2 v9]) (st := []) hx (dc kJ5_append_c97b9_0 18 rfl) (cI _ my_J6_getChars_ba4f3 lm_J5_248 (by decide)) st_J6_getChars_ba4f3 rfl (fun u hu => sJ6_getChars_ba4f3 _ _ _ _ _ _ _ hu) (Nat.zero_le _) rfl (fun v10 h11 => ?_)
    refine j_pop (q := 34) hx (dc kJ5_append_c97b9_0 19 rfl) rfl rfl ?_
    refine j_goto (q := 48) hx (dc kJ5_append_c97b9_0 20 rfl) (by decide) ?_
    refine j_aload_n (q := 49) hx (dc kJ5_append_c97b9_0 28 rfl) rfl 2 rfl rfl ?_
    refine j_iload_n (q := 50) hx (dc kJ5_append_c97b9_0 29 rfl) rfl 0 rfl rfl ?_
    refine w_sI (q := 53) hx (dc kJ5_append_c97b9_0 30 rfl) ff_J4_3 rfl lk_J5_79 (Or.inl rfl) rfl (fun h12 => ?_)
    refine j_aload_n (q := 54) hx (dc kJ5_append_c97b9_0 31 rfl) rfl 2 rfl rfl ?_
    exact r_aW hx (Or.inl ⟨_, rfl⟩) hR (dc kJ5_append_c97b9_0 32 rfl)

set_option maxHeartbeats 4000000 in
set_option maxRecDepth 100000 in
theorem sJ4_append_bf812 (l : Launch) (w : Wd) (x0 : Nat) (x1 : Int32) (h : Hp) (u : (Nat × Hp)) (hK : mJ4_append_bf812 x0 x1 h = some u) : M1 l w mi_J4_append_bf812 5 [vR w x0, .int x1] h u.2 (some (vR w u.1)) := by
  refine M1.of (own := RJ4) (T := fun _ r => r = u) hK (by decide +kernel) rfl (by first | (simp only [lg_lenR, lg_lenI, lg_lenL, lg_len0]; decide) | decide) (fun x hx hnl hhf hl hw hret hnm hQ h0e => ⟨?_, rfl⟩)
  subst hw
  subst hl
  have hR : Rt x h u.2 (some (vR x.2.2.2 u.1)) ((some (.object "java/lang/StringBuilder"))) := ⟨h0e, hhf, hret, hQ⟩
  have hn : ∀ i, i < 2 → i < x.2.2.1.1.1 := fun i hi => by rw [hnl]; exact hi
  have e0 : lv_args 0 [vR x.2.2.2 x0, .int x1] = [(0, vR x.2.2.2 x0), (1, .int x1)] := by simp only [lv_argsR, lv_argsI, lv_argsL, lv_args0]
  rw [e0]
  unfold mJ4_append_bf812
  refine J.ckd fun hck => ?_
  refine j_aload_n (q := 1) hx (dc kJ4_append_bf812_0 0 rfl) rfl 0 rfl rfl ?_
  refine j_iload_n (q := 2) hx (dc kJ4_append_bf812_0 1 rfl) rfl 1 rfl rfl ?_
  refine w_cPRW (q := 5) (As := [.int x1]) (st := []) hx (dc kJ4_append_bf812_0 2 rfl) cf16 (by decide) (cp_J4_53 (by decide)) rfl (fun u hu => sJ5_append_c97b9 _ _ _ _ _ _ hu) (fun e => ite_ne (by unfold mJ5_append_c97b9 at e; exact e)) (Nat.zero_le _) rfl (fun v1 h2 => ?_)
  refine j_pop (q := 6) hx (dc kJ4_append_bf812_0 3 rfl) (vR_cat _ _) rfl ?_
  refine j_aload_n (q := 7) hx (dc kJ4_append_bf812_0 4 rfl) rfl 0 rfl rfl ?_
  exact r_aW hx (Or.inl ⟨_, rfl⟩) hR (dc kJ4_append_bf812_0 5 rfl)

set_option maxHeartbeats 4000000 in
set_option maxRecDepth 100000 in
theorem sJ4_append_cf1ce (l : Launch) (w : Wd) (x0 : Nat) (x1 : Nat) (h : Hp) (u : (Nat × Hp)) (hK : mJ4_append_cf1ce x0 x1 h = some u) : M1 l w mi_J4_append_cf1ce 6 [vR w x0, vR w x1] h u.2 (some (vR w u.1)) := by
  refine M1.of (own := RJ4) (T := fun _ r => r = u) hK (by decide +kernel) rfl (by first | (simp only [lg_lenR, lg_lenI, lg_lenL, lg_len0]; decide) | decide) (fun x hx hnl hhf hl hw hret hnm hQ h0e => ⟨?_, rfl⟩)
  subst hw
  subst hl
  have hR : Rt x h u.2 (some (vR x.2.2.2 u.1)) ((some (.object "java/lang/AbstractStringBuilder"))) := ⟨h0e, hhf, hret, hQ⟩
  have hn : ∀ i, i < 2 → i < x.2.2.1.1.1 := fun i hi => by rw [hnl]; exact hi
  have e0 : lv_args 0 [vR x.2.2.2 x0, vR x.2.2.2 x1] = [(0, vR x.2.2.2 x0), (1, vR x.2.2.2 x1)] := by simp only [lv_argsR, lv_argsI, lv_argsL, lv_args0]
  rw [e0]
  unfold mJ4_append_cf1ce
  refine J.ckd fun hck => ?_
  refine j_aload_n (q := 1) hx (dc kJ4_append_cf1ce_0 0 rfl) rfl 0 rfl rfl ?_
  refine j_aload_n (q := 2) hx (dc kJ4_append_cf1ce_0 1 rfl) rfl 1 rfl rfl ?_
  refine w_cVRW (q := 5) (As := [vR x.2.2.2 x1]) (st := []) hx (dc kJ4_append_cf1ce_0 2 rfl) cf16 (by decide) rfl (cI _ my_J4_append_15ec4 lm_J4_23 (by decide)) vs_J4_append_15ec4 rfl (fun u hu => sJ4_append_15ec4 _ _ _ _ _ _ hu) (fun e => ite_ne (by unfold mJ4_append_15ec4 at e; exact e)) (Nat.zero_le _) rfl (fun v1 h2 => ?_)
  exact r_aW hx (Or.inl ⟨_, rfl⟩) hR (dc kJ4_append_cf1ce_0 3 rfl)

set_option maxHeartbeats 4000000 in
set_option maxRecDepth 100000 in
theorem sJ5_init_a7421 {x0 : Nat} (hvx0 : x0 ≠ 0) (l : Launch) (w : Wd) (x1 : Nat) (h : Hp) (u : Hp) (hK : mJ5_init_a7421 x0 x1 h = some u) : M1 l w mi_J5_init_a7421 7 [vR w x0, vR w x1] h u (none) := by
  refine M1.of (own := RJ5) (T := fun _ r => r = u) hK (by decide +kernel) rfl (by first | (simp only [lg_lenR, lg_lenI, lg_lenL, lg_len0]; decide) | decide) (fun x hx hnl hhf hl hw hret hnm hQ h0e => ⟨?_, rfl⟩)
  subst hw
  subst hl
  have hR : Rt x h u (none) (none) := ⟨h0e, hhf, hret, hQ⟩
  have hn : ∀ i, i < 5 → i < x.2.2.1.1.1 := fun i hi => by rw [hnl]; exact hi
  have e0 : lv_args 0 [vR x.2.2.2 x0, vR x.2.2.2 x1] = [(0, vR x.2.2.2 x0), (1, vR x.2.2.2 x1)] := by simp only [lv_argsR, lv_argsI, lv_argsL, lv_args0]
  rw [e0]
  have hb24 : ∀ (x0 : Nat) (x1 : Nat) (t0 : Int32) (h : Hp), J x 24 [(0, vR x.2.2.2 x0), (1, vR x.2.2.2 x1)] [.int t0] h (mJ5_init_a7421_b24 x0 x1 t0 h) (fun r => r = u) := by
    intro x0 x1 t0 h
    unfold mJ5_init_a7421_b24
    refine j_istore_n (q := 25) (i := 3) (l2 := [(0, vR x.2.2.2 x0), (1, vR x.2.2.2 x1)]) hx (dc kJ5_init_a7421_0 13 rfl) rfl (hn 3 (by decide)) [0, 1] rfl ⟨⟨show (0 : Nat) ≠ 3 by decide, Or.inl (show (0 : Nat) + 1 ≠ 3 by decide)⟩, ⟨⟨show (1 : Nat) ≠ 3 by decide, Or.inl (show (1 : Nat) + 1 ≠ 3 by decide)⟩, trivial⟩⟩ rfl ?_
    refine j_aload_n (q := 26) hx (dc kJ5_init_a7421_0 14 rfl) rfl 2 rfl rfl ?_
    refine w_cTIR (q := 29) (As := []) (st := []) hx (dc kJ5_init_a7421_0 15 rfl) (cI _ my_J0_coder_7d493 lm_J5_40 (by decide)) vs_J0_coder_7d493 rfl (fun u hu => sJ0_coder_7d493 _ _ _ _ _ hu) rfl (fun e => ite_ne (by unfold mJ0_coder_7d493 at e; exact e)) (Nat.zero_le _) rfl (fun v3 => ?_)
    refine j_istore (q := 31) (i := 4) (l2 := [(3, .int t0), (0, vR x.2.2.2 x0), (1, vR x.2.2.2 x1)]) hx (dc kJ5_init_a7421_0 16 rfl) (hn 4 (by decide)) [0, 1, 2] rfl ⟨⟨show (3 : Nat) ≠ 4 by decide, Or.inr rfl⟩, ⟨⟨show (0 : Nat) ≠ 4 by decide, Or.inl (show (0 : Nat) + 1 ≠ 4 by decide)⟩, ⟨⟨show (1 : Nat) ≠ 4 by decide, Or.inl (show (1 : Nat) + 1 ≠ 4 by decide)⟩, trivial⟩⟩⟩ rfl ?_
    refine j_aload_n (q := 32) hx (dc kJ5_init_a7421_0 17 rfl) rfl 2 rfl rfl ?_
    refine j_iload (q := 34) hx (dc kJ5_init_a7421_0 18 rfl) 0 rfl rfl ?_
    refine w_sB (q := 37) hx (dc kJ5_init_a7421_0 19 rfl) ff_J4_1 rfl lk_J5_22 (Or.inl rfl) rfl (fun h5 => ?_)
    refine j_aload_n (q := 38) hx (dc kJ5_init_a7421_0 20 rfl) rfl 2 rfl rfl ?_
    refine j_iload (q := 40) hx (dc kJ5_init_a7421_0 21 rfl) 0 rfl rfl ?_
    refine j_if_neS (q := 43) (tgt := 49) hx (dc kJ5_init_a7421_0 22 rfl) (by decide) rfl ?_ ?_
    · refine j_iload_n (q := 50) hx (dc kJ5_init_a7421_0 26 rfl) rfl 1 rfl rfl ?_
      exact j_none
    · refine j_iload_n (q := 44) hx (dc kJ5_init_a7421_0 23 rfl) rfl 1 rfl rfl ?_
      refine j_newarray53 (q := 46) hx (dc kJ5_init_a7421_0 24 rfl) ac_B rfl (fun v7 hvv7 h6 => ?_)
      refine j_goto (q := 53) hx (dc kJ5_init_a7421_0 25 rfl) (by decide) ?_
      refine w_sR (q := 56) hx (dc kJ5_init_a7421_0 28 rfl) ff_J4_0 lk_J5_15 (Or.inl rfl) rfl (fun h8 => ?_)
      refine j_aload_n (q := 57) hx (dc kJ5_init_a7421_0 29 rfl) rfl 2 rfl rfl ?_
      refine j_aload_n (q := 58) hx (dc kJ5_init_a7421_0 30 rfl) rfl 3 rfl rfl ?_
      refine w_cURW (q := 61) (As := [vR x.2.2.2 x1]) (st := []) hx (dc kJ5_init_a7421_0 31 rfl) cf16 (by decide) (cu_J5_43 (by decide)) rfl (fun u hu => sJ4_append_cf1ce _ _ _ _ _ _ hu) (fun e => ite_ne (by unfold mJ4_append_cf1ce at e; exact e)) (Nat.zero_le _) rfl (fun v9 h10 => ?_)
      refine j_pop (q := 62) hx (dc kJ5_init_a7421_0 32 rfl) (vR_cat _ _) rfl ?_
      exact r_vW hx hR (dc kJ5_init_a7421_0 33 rfl)
  unfold mJ5_init_a7421
  refine j_aload_n (q := 1) hx (dc kJ5_init_a7421_0 0 rfl) rfl 0 rfl rfl ?_
  refine j_obj (q := 4) hx (dc kJ5_init_a7421_0 1 rfl) lo_J5_3 hvx0 (by decide) (Nat.zero_le _) rfl ?_
  refine j_aload_n (q := 5) hx (dc kJ5_init_a7421_0 2 rfl) rfl 1 rfl rfl ?_
  refine w_cTIR (q := 8) (As := []) (st := []) hx (dc kJ5_init_a7421_0 3 rfl) (cI _ my_J0_length_8abf5 lm_J5_32 (by decide)) vs_J0_length_8abf5 rfl (fun u hu => sJ0_length_8abf5 _ _ _ _ _ hu) rfl (fun e => ite_ne (by unfold mJ0_length_8abf5 at e; exact e)) (Nat.zero_le _) rfl (fun v1 => ?_)
  refine j_istore_n (q := 9) (i := 2) (l2 := [(0, vR x.2.2.2 x0), (1, vR x.2.2.2 x1)]) hx (dc kJ5_init_a7421_0 4 rfl) rfl (hn 2 (by decide)) [0, 1] rfl ⟨⟨show (0 : Nat) ≠ 2 by decide, Or.inl (show (0 : Nat) + 1 ≠ 2 by decide)⟩, ⟨⟨show (1 : Nat) ≠ 2 by decide, Or.inr (vR_cat _ _)⟩, trivial⟩⟩ rfl ?_
  refine j_iload_n (q := 10) hx (dc kJ5_init_a7421_0 5 rfl) rfl 0 rfl rfl ?_
  refine j_ldc (q := 12) hx kc_J5_38 (dc kJ5_init_a7421_0 6 rfl) rfl ?_
  refine j_icmp_geS (q := 15) (tgt := 22) hx (dc kJ5_init_a7421_0 7 rfl) (by decide) rfl ?_ ?_
  · refine j_ldc (q := 24) hx kc_J5_39 (dc kJ5_init_a7421_0 12 rfl) rfl ?_
    exact j_sub [1, 2] rfl (hb24 x0 x1 (2147483647 : Int32) h)
  · refine j_iload_n (q := 16) hx (dc kJ5_init_a7421_0 8 rfl) rfl 0 rfl rfl ?_
    refine j_bipush (q := 18) (v := (16 : Int32)) hx (dc kJ5_init_a7421_0 9 rfl) (by decide) rfl ?_
    refine j_iadd (q := 19) hx (dc kJ5_init_a7421_0 10 rfl) rfl ?_
    refine j_goto (q := 24) hx (dc kJ5_init_a7421_0 11 rfl) (by decide) ?_
    exact j_sub [1, 2] rfl (hb24 x0 x1 (v1 + (16 : Int32)) h)

set_option maxHeartbeats 4000000 in
set_option maxRecDepth 100000 in
theorem sJ4_init_a7421 {x0 : Nat} (hvx0 : x0 ≠ 0) (l : Launch) (w : Wd) (x1 : Nat) (h : Hp) (u : Hp) (hK : mJ4_init_a7421 x0 x1 h = some u) : M1 l w mi_J4_init_a7421 8 [vR w x0, vR w x1] h u (none) := by
  refine M1.of (own := RJ4) (T := fun _ r => r = u) hK (by decide +kernel) rfl (by first | (simp only [lg_lenR, lg_lenI, lg_lenL, lg_len0]; decide) | decide) (fun x hx hnl hhf hl hw hret hnm hQ h0e => ⟨?_, rfl⟩)
  subst hw
  subst hl
  have hR : Rt x h u (none) (none) := ⟨h0e, hhf, hret, hQ⟩
  have hn : ∀ i, i < 2 → i < x.2.2.1.1.1 := fun i hi => by rw [hnl]; exact hi
  have e0 : lv_args 0 [vR x.2.2.2 x0, vR x.2.2.2 x1] = [(0, vR x.2.2.2 x0), (1, vR x.2.2.2 x1)] := by simp only [lv_argsR, lv_argsI, lv_argsL, lv_args0]
  rw [e0]
  unfold mJ4_init_a7421
  refine j_aload_n (q := 1) hx (dc kJ4_init_a7421_0 0 rfl) rfl 0 rfl rfl ?_
  refine j_aload_n (q := 2) hx (dc kJ4_init_a7421_0 1 rfl) rfl 1 rfl rfl ?_
  refine w_cIVW (q := 5) (As := [vR x.2.2.2 x1]) (st := []) hx (dc kJ4_init_a7421_0 2 rfl) (cI _ my_J5_init_a7421 lm_J4_7 (by decide)) is_J5_init_a7421 rfl rfl (fun u hu => sJ5_init_a7421 hvx0 _ _ _ _ _ hu) hvx0 (Nat.zero_le _) rfl (fun h2 => ?_)
  exact r_vW hx hR (dc kJ4_init_a7421_0 3 rfl)

set_option maxHeartbeats 4000000 in
set_option maxRecDepth 100000 in
theorem sX13_all_F (d : Nat) (hd : 8 ≤ d) (g : GTX13_all) (hg0 : ∀ (l : Launch) (w : Wd) (x0 : Nat) (h : Hp) (u : (Nat × Hp)), g.1 x0 h = some u → M1 l w mi_X13_all d [vR w x0] h u.2 (some (vR w u.1))) (hk0 : ∀ (x0 : Nat) (h : Hp), g.1 x0 h ≠ none → (hpS h x0).1 = 14) (hg1 : ∀ (l : Launch) (w : Wd) (x0 : Nat) (h : Hp) (u : (Nat × Hp)), g.2 x0 h = some u → M1 l w mi_X13_one d [vR w x0] h u.2 (some (vR w u.1))) (hk1 : ∀ (x0 : Nat) (h : Hp), g.2 x0 h ≠ none → (hpS h x0).1 = 14) (l : Launch) (w : Wd) (x0 : Nat) (h : Hp) (u : (Nat × Hp)) (hK : mX13_all_F g x0 h = some u) : M1 l w mi_X13_all (d + 1) [vR w x0] h u.2 (some (vR w u.1)) := by
  refine M1.of (own := RX13) (T := fun _ r => r = u) hK (by decide +kernel) rfl (by first | (simp only [lg_lenR, lg_lenI, lg_lenL, lg_len0]; decide) | decide) (fun x hx hnl hhf hl hw hret hnm hQ h0e => ⟨?_, rfl⟩)
  subst hw
  subst hl
  have hR : Rt x h u.2 (some (vR x.2.2.2 u.1)) ((some (.object "java/lang/String"))) := ⟨h0e, hhf, hret, hQ⟩
  have hn : ∀ i, i < 3 → i < x.2.2.1.1.1 := fun i hi => by rw [hnl]; exact hi
  have e0 : lv_args 0 [vR x.2.2.2 x0] = [(0, vR x.2.2.2 x0)] := by simp only [lv_argsR, lv_argsI, lv_argsL, lv_args0]
  rw [e0]
  have hb220 : ∀ (t0 : Nat) (t1 : Nat) (h : Hp), J x 220 [] [vR x.2.2.2 t1, vR x.2.2.2 t0] h (mX13_all_b220 g t0 t1 h) (fun r => r = u) := by
    intro t0 t1 h
    unfold mX13_all_b220
    refine w_cVRW (q := 223) (As := [vR x.2.2.2 t1]) (st := []) hx (dc kX13_all_1 41 rfl) cf16 (by decide) rfl (cI _ my_J4_append_15ec4 lm_X13_37 (by omega)) vs_J4_append_15ec4 rfl (fun u hu => sJ4_append_15ec4 _ _ _ _ _ _ hu) (fun e => ite_ne (by unfold mJ4_append_15ec4 at e; exact e)) (Nat.zero_le _) rfl (fun v11 h12 => ?_)
    refine w_cVRW (q := 226) (As := []) (st := []) hx (dc kX13_all_1 42 rfl) cf16 (by decide) rfl (cI _ my_J4_toString_0e30d lm_X13_43 (by omega)) vs_J4_toString_0e30d rfl (fun u hu => sJ4_toString_0e30d _ _ _ _ _ hu) (fun e => ite_ne (by unfold mJ4_toString_0e30d at e; exact e)) (Nat.zero_le _) rfl (fun v13 h14 => ?_)
    exact r_aW hx (Or.inl ⟨_, rfl⟩) hR (dc kX13_all_1 43 rfl)
  have hb115 : ∀ (x0 : Nat) (x1 : Nat) (x2 : Int32) (h : Hp), J x 115 [(0, vR x.2.2.2 x0), (1, vR x.2.2.2 x1), (2, .int x2)] [] h (mX13_all_l115 g x0 x1 x2 h) (fun r => r = u) := by
    intro x0 x1 x2 h
    have hB : ∀ (x2 : Int32) (h : Hp), J x 115 [(0, vR x.2.2.2 x0), (1, vR x.2.2.2 x1), (2, .int x2)] [] h (mX13_all_l115f g x0 x1 x2 h) (TLo (S := (Int32 × Hp)) x 115 (fun s => [(0, vR x.2.2.2 x0), (1, vR x.2.2.2 x1), (2, .int s.1)]) [] (fun s => s.2) (fun r => r = u)) := by
      intro x2 h
      have hb194 : ∀ (x0 : Nat) (x1 : Nat) (x2 : Int32) (t0 : Nat) (t1 : Nat) (h : Hp), J x 194 [(0, vR x.2.2.2 x0), (1, vR x.2.2.2 x1), (2, .int x2)] [vR x.2.2.2 t1, vR x.2.2.2 t0] h (mX13_all_b194 g x0 x1 x2 t0 t1 h) (TLo (S := (Int32 × Hp)) x 115 (fun s => [(0, vR x.2.2.2 x0), (1, vR x.2.2.2 x1), (2, .int s.1)]) [] (fun s => s.2) (fun r => r = u)) := by
        intro x0 x1 x2 t0 t1 h
        unfold mX13_all_b194
        refine w_cVRW (q := 197) (As := [vR x.2.2.2 t1]) (st := []) hx (dc kX13_all_1 29 rfl) cf16 (by decide) rfl (cI _ my_J4_append_15ec4 lm_X13_37 (by omega)) vs_J4_append_15ec4 rfl (fun u hu => sJ4_append_15ec4 _ _ _ _ _ _ hu) (fun e => ite_ne (by unfold mJ4_append_15ec4 at e; exact e)) (Nat.zero_le _) rfl (fun v24 h25 => ?_)
        refine j_pop (q := 198) hx (dc kX13_all_1 30 rfl) (vR_cat _ _) rfl ?_
        refine j_iinc (q := 201) (l2 := [(0, vR x.2.2.2 x0), (1, vR x.2.2.2 x1)]) hx (dc kX13_all_1 31 rfl) 2 rfl (v := (1 : Int32)) (by decide) (hn 2 (by decide)) [0, 1] rfl ⟨⟨show (0 : Nat) ≠ 2 by decide, Or.inl (show (0 : Nat) + 1 ≠ 2 by decide)⟩, ⟨⟨show (1 : Nat) ≠ 2 by decide, Or.inr (vR_cat _ _)⟩, trivial⟩⟩ rfl ?_
        refine j_goto (q := 115) hx (dc kX13_all_1 32 rfl) (by decide) ?_
        exact j_back [1, 2, 0] ((x2 + (1 : Int32)), h25) rfl rfl
      have hb162 : ∀ (x0 : Nat) (x1 : Nat) (x2 : Int32) (t0 : Nat) (t1 : Nat) (h : Hp), J x 162 [(0, vR x.2.2.2 x0), (1, vR x.2.2.2 x1), (2, .int x2)] [vR x.2.2.2 t1, vR x.2.2.2 t0] h (mX13_all_b162 g x0 x1 x2 t0 t1 h) (TLo (S := (Int32 × Hp)) x 115 (fun s => [(0, vR x.2.2.2 x0), (1, vR x.2.2.2 x1), (2, .int s.1)]) [] (fun s => s.2) (fun r => r = u)) := by
        intro x0 x1 x2 t0 t1 h
        unfold mX13_all_b162
        refine w_cVRW (q := 165) (As := [vR x.2.2.2 t1]) (st := []) hx (dc kX13_all_1 13 rfl) cf16 (by decide) rfl (cI _ my_J4_append_15ec4 lm_X13_37 (by omega)) vs_J4_append_15ec4 rfl (fun u hu => sJ4_append_15ec4 _ _ _ _ _ _ hu) (fun e => ite_ne (by unfold mJ4_append_15ec4 at e; exact e)) (Nat.zero_le _) rfl (fun v17 h18 => ?_)
        refine j_aload_n (q := 166) hx (dc kX13_all_1 14 rfl) rfl 0 rfl rfl ?_
        refine w_gI (q := 169) hx (dc kX13_all_1 15 rfl) ff_X13_0 lk_X13_7 rfl (fun v19 => ?_)
        refine j_iconst (q := 170) (v := (4 : Int32)) hx (dc kX13_all_1 16 rfl) (by decide) rfl ?_
        refine j_icmp_neS (q := 173) (tgt := 185) hx (dc kX13_all_1 17 rfl) (by decide) rfl ?_ ?_
        · refine j_aload_n (q := 186) hx (dc kX13_all_1 24 rfl) rfl 0 rfl rfl ?_
          refine w_gR (q := 189) hx (dc kX13_all_1 25 rfl) ff_X13_2 lk_X13_16 rfl (fun v20 => ?_)
          refine j_iload_n (q := 190) hx (dc kX13_all_1 26 rfl) rfl 2 rfl rfl ?_
          refine j_ldR (t := 2) (q := 191) hx (dc kX13_all_1 27 rfl) rfl (by decide) rfl (fun v21 => ?_)
          refine w_cVRW (q := 194) (As := []) (st := [vR x.2.2.2 v17]) hx (dc kX13_all_1 28 rfl) cf13 (by decide) rfl (cI _ my_X13_one lm_X13_53 (by omega)) vs_X13_one rfl (fun u hu => hg1 _ _ _ _ _ hu) (hk1 _ _) (sum_le (sum_R sum_nil) (by decide)) rfl (fun v22 h23 => ?_)
          exact hb194 x0 x1 x2 v17 v22 h23
        · refine j_aload_n (q := 174) hx (dc kX13_all_1 18 rfl) rfl 0 rfl rfl ?_
          refine w_gR (q := 177) hx (dc kX13_all_1 19 rfl) ff_X13_2 lk_X13_16 rfl (fun v26 => ?_)
          refine j_iload_n (q := 178) hx (dc kX13_all_1 20 rfl) rfl 2 rfl rfl ?_
          refine j_ldR (t := 2) (q := 179) hx (dc kX13_all_1 21 rfl) rfl (by decide) rfl (fun v27 => ?_)
          refine w_cVRW (q := 182) (As := []) (st := [vR x.2.2.2 v17]) hx (dc kX13_all_1 22 rfl) cf13 (by decide) rfl (cI _ my_X13_all lm_X13_28 (by omega)) vs_X13_all rfl (fun u hu => hg0 _ _ _ _ _ hu) (hk0 _ _) (sum_le (sum_R sum_nil) (by decide)) rfl (fun v28 h29 => ?_)
          refine j_goto (q := 194) hx (dc kX13_all_1 23 rfl) (by decide) ?_
          exact hb194 x0 x1 x2 v17 v28 h29
      unfold mX13_all_l115f
      refine j_iload_n (q := 116) hx (dc kX13_all_0 54 rfl) rfl 2 rfl rfl ?_
      refine j_aload_n (q := 117) hx (dc kX13_all_0 55 rfl) rfl 0 rfl rfl ?_
      refine w_gR (q := 120) hx (dc kX13_all_0 56 rfl) ff_X13_2 lk_X13_16 rfl (fun v8 => ?_)
      refine j_alen (q := 121) hx (dc kX13_all_0 57 rfl) rfl (fun v9 => ?_)
      refine j_icmp_geS (q := 124) (tgt := 204) hx (dc kX13_all_0 58 rfl) (by decide) rfl ?_ ?_
      · refine j_exit ?_
        refine j_aload_n (q := 205) hx (dc kX13_all_1 33 rfl) rfl 1 rfl rfl ?_
        refine j_aload_n (q := 206) hx (dc kX13_all_1 34 rfl) rfl 0 rfl rfl ?_
        refine w_gI (q := 209) hx (dc kX13_all_1 35 rfl) ff_X13_0 lk_X13_7 rfl (fun v10 => ?_)
        refine j_iconst (q := 210) (v := (4 : Int32)) hx (dc kX13_all_1 36 rfl) (by decide) rfl ?_
        refine j_icmp_neS (q := 213) (tgt := 218) hx (dc kX13_all_1 37 rfl) (by decide) rfl ?_ ?_
        · refine j_ldcS (a := 4) (q := 220) hx (show (_, _, "", _) ∈ strs0 by decide +kernel) (dc kX13_all_1 40 rfl) rfl ?_
          exact j_sub [] rfl (hb220 x1 14 h)
        · refine j_ldcS (a := 9) (q := 215) hx (show (_, _, ")", _) ∈ strs0 by decide +kernel) (dc kX13_all_1 38 rfl) rfl ?_
          refine j_goto (q := 220) hx (dc kX13_all_1 39 rfl) (by decide) ?_
          exact j_sub [] rfl (hb220 x1 19 h)
      · refine j_aload_n (q := 125) hx (dc kX13_all_0 59 rfl) rfl 1 rfl rfl ?_
        refine j_iload_n (q := 126) hx (dc kX13_all_0 60 rfl) rfl 2 rfl rfl ?_
        refine j_if_neS (q := 129) (tgt := 134) hx (dc kX13_all_0 61 rfl) (by decide) rfl ?_ ?_
        · refine j_aload_n (q := 135) hx (dc kX13_all_1 0 rfl) rfl 0 rfl rfl ?_
          refine w_gI (q := 138) hx (dc kX13_all_1 1 rfl) ff_X13_0 lk_X13_7 rfl (fun v15 => ?_)
          refine j_iconst (q := 139) (v := (2 : Int32)) hx (dc kX13_all_1 2 rfl) (by decide) rfl ?_
          refine j_icmp_neS (q := 142) (tgt := 147) hx (dc kX13_all_1 3 rfl) (by decide) rfl ?_ ?_
          · refine j_aload_n (q := 148) hx (dc kX13_all_1 6 rfl) rfl 0 rfl rfl ?_
            refine w_gI (q := 151) hx (dc kX13_all_1 7 rfl) ff_X13_0 lk_X13_7 rfl (fun v16 => ?_)
            refine j_iconst (q := 152) (v := (3 : Int32)) hx (dc kX13_all_1 8 rfl) (by decide) rfl ?_
            refine j_icmp_neS (q := 155) (tgt := 160) hx (dc kX13_all_1 9 rfl) (by decide) rfl ?_ ?_
            · refine j_ldcS (a := 13) (q := 162) hx (show (_, _, ",", _) ∈ strs0 by decide +kernel) (dc kX13_all_1 12 rfl) rfl ?_
              exact hb162 x0 x1 x2 x1 23 h
            · refine j_ldcS (a := 12) (q := 157) hx (show (_, _, " |", _) ∈ strs0 by decide +kernel) (dc kX13_all_1 10 rfl) rfl ?_
              refine j_goto (q := 162) hx (dc kX13_all_1 11 rfl) (by decide) ?_
              exact hb162 x0 x1 x2 x1 22 h
          · refine j_ldcS (a := 11) (q := 144) hx (show (_, _, "&", _) ∈ strs0 by decide +kernel) (dc kX13_all_1 4 rfl) rfl ?_
            refine j_goto (q := 162) hx (dc kX13_all_1 5 rfl) (by decide) ?_
            exact hb162 x0 x1 x2 x1 21 h
        · refine j_ldcS (a := 4) (q := 131) hx (show (_, _, "", _) ∈ strs0 by decide +kernel) (dc kX13_all_0 62 rfl) rfl ?_
          refine j_goto (q := 162) hx (dc kX13_all_0 63 rfl) (by decide) ?_
          exact hb162 x0 x1 x2 x1 14 h
    exact j_loop (S := (Int32 × Hp)) (lvf := fun s => [(0, vR x.2.2.2 x0), (1, vR x.2.2.2 x1), (2, .int s.1)]) (hpf := fun s => s.2) (f := (fun s : (Int32 × Hp) => mX13_all_l115f g x0 x1 s.1 s.2)) (fun s => hB s.1 s.2) (x2, h)
  have hb109 : ∀ (x0 : Nat) (t0 : Nat) (t1 : Nat) (t2 : Nat) (h : Hp), J x 109 [(0, vR x.2.2.2 x0)] [vR x.2.2.2 t2, vR x.2.2.2 t1, vR x.2.2.2 t0] h (mX13_all_b109 g x0 t0 t1 t2 h) (fun r => r = u) := by
    intro x0 t0 t1 t2 h
    unfold mX13_all_b109
    refine j_ng (fun hvt1 => ?_)
    refine w_cIVW (q := 112) (As := [vR x.2.2.2 t2]) (st := [vR x.2.2.2 t0]) hx (dc kX13_all_0 50 rfl) (cI _ my_J4_init_a7421 lm_X13_61 (by omega)) is_J4_init_a7421 rfl rfl (fun u hu => sJ4_init_a7421 hvt1 _ _ _ _ _ hu) hvt1 (sum_le (sum_R sum_nil) (by decide)) rfl (fun h7 => ?_)
    refine j_astore_n (q := 113) (i := 1) (l2 := [(0, vR x.2.2.2 x0)]) hx (dc kX13_all_0 51 rfl) rfl (hn 1 (by decide)) [0] rfl ⟨⟨show (0 : Nat) ≠ 1 by decide, Or.inr (vR_cat _ _)⟩, trivial⟩ rfl ?_
    refine j_iconst (q := 114) (v := (0 : Int32)) hx (dc kX13_all_0 52 rfl) (by decide) rfl ?_
    refine j_istore_n (q := 115) (i := 2) (l2 := [(1, vR x.2.2.2 t0), (0, vR x.2.2.2 x0)]) hx (dc kX13_all_0 53 rfl) rfl (hn 2 (by decide)) [0, 1] rfl ⟨⟨show (1 : Nat) ≠ 2 by decide, Or.inr (vR_cat _ _)⟩, ⟨⟨show (0 : Nat) ≠ 2 by decide, Or.inl (show (0 : Nat) + 1 ≠ 2 by decide)⟩, trivial⟩⟩ rfl ?_
    exact j_sub [2, 1, 0] rfl (hb115 x0 t0 (0 : Int32) h7)
  unfold mX13_all_F
  refine J.ckd fun hck => ?_
  refine j_aload_n (q := 1) hx (dc kX13_all_0 0 rfl) rfl 0 rfl rfl ?_
  refine w_gI (q := 4) hx (dc kX13_all_0 1 rfl) ff_X13_0 lk_X13_7 rfl (fun v1 => ?_)
  refine j_if_neS (q := 7) (tgt := 34) hx (dc kX13_all_0 2 rfl) (by decide) rfl ?_ ?_
  · refine j_aload_n (q := 35) hx (dc kX13_all_0 16 rfl) rfl 0 rfl rfl ?_
    refine w_gI (q := 38) hx (dc kX13_all_0 17 rfl) ff_X13_0 lk_X13_7 rfl (fun v2 => ?_)
    refine j_iconst (q := 39) (v := (1 : Int32)) hx (dc kX13_all_0 18 rfl) (by decide) rfl ?_
    refine j_icmp_neS (q := 42) (tgt := 70) hx (dc kX13_all_0 19 rfl) (by decide) rfl ?_ ?_
    · refine j_new (q := 73) hx (dc kX13_all_0 33 rfl) cf16 (by decide) nw_X13_32 rfl (fun v4 hvv4 h3 => ?_)
      refine j_dup (q := 74) hx (dc kX13_all_0 34 rfl) (vR_cat _ _) rfl ?_
      refine j_aload_n (q := 75) hx (dc kX13_all_0 35 rfl) rfl 0 rfl rfl ?_
      refine w_gI (q := 78) hx (dc kX13_all_0 36 rfl) ff_X13_0 lk_X13_7 rfl (fun v5 => ?_)
      refine j_iconst (q := 79) (v := (4 : Int32)) hx (dc kX13_all_0 37 rfl) (by decide) rfl ?_
      refine j_icmp_neS (q := 82) (tgt := 107) hx (dc kX13_all_0 38 rfl) (by decide) rfl ?_ ?_
      · refine j_ldcS (a := 4) (q := 109) hx (show (_, _, "", _) ∈ strs0 by decide +kernel) (dc kX13_all_0 49 rfl) rfl ?_
        exact hb109 x0 v4 v4 14 h3
      · refine j_new (q := 85) hx (dc kX13_all_0 39 rfl) cf16 (by decide) nw_X13_32 rfl (fun v31 hvv31 h30 => ?_)
        refine j_dup (q := 86) hx (dc kX13_all_0 40 rfl) (vR_cat _ _) rfl ?_
        refine w_cIVW (q := 89) (As := []) (st := [vR x.2.2.2 v31, vR x.2.2.2 v4, vR x.2.2.2 v4]) hx (dc kX13_all_0 41 rfl) (cI _ my_J4_init_da8c8 lm_X13_34 (by omega)) is_J4_init_da8c8 rfl rfl (fun u hu => sJ4_init_da8c8 hvv31 _ _ _ _ hu) hvv31 (sum_le (sum_R (sum_R (sum_R sum_nil))) (by decide)) rfl (fun h33 => ?_)
        refine j_aload_n (q := 90) hx (dc kX13_all_0 42 rfl) rfl 0 rfl rfl ?_
        refine w_gI (q := 93) hx (dc kX13_all_0 43 rfl) ff_X13_1 lk_X13_13 rfl (fun v34 => ?_)
        refine w_cVRW (q := 96) (As := [.int v34]) (st := [vR x.2.2.2 v4, vR x.2.2.2 v4]) hx (dc kX13_all_0 44 rfl) cf16 (by decide) rfl (cI _ my_J4_append_bf812 lm_X13_56 (by omega)) vs_J4_append_bf812 rfl (fun u hu => sJ4_append_bf812 _ _ _ _ _ _ hu) (fun e => ite_ne (by unfold mJ4_append_bf812 at e; exact e)) (sum_le (sum_R (sum_R sum_nil)) (by decide)) rfl (fun v35 h36 => ?_)
        refine j_ldcS (a := 10) (q := 98) hx (show (_, _, " of (", _) ∈ strs0 by decide +kernel) (dc kX13_all_0 45 rfl) rfl ?_
        refine w_cVRW (q := 101) (As := [vR x.2.2.2 20]) (st := [vR x.2.2.2 v4, vR x.2.2.2 v4]) hx (dc kX13_all_0 46 rfl) cf16 (by decide) rfl (cI _ my_J4_append_15ec4 lm_X13_37 (by omega)) vs_J4_append_15ec4 rfl (fun u hu => sJ4_append_15ec4 _ _ _ _ _ _ hu) (fun e => ite_ne (by unfold mJ4_append_15ec4 at e; exact e)) (sum_le (sum_R (sum_R sum_nil)) (by decide)) rfl (fun v37 h38 => ?_)
        refine w_cVRW (q := 104) (As := []) (st := [vR x.2.2.2 v4, vR x.2.2.2 v4]) hx (dc kX13_all_0 47 rfl) cf16 (by decide) rfl (cI _ my_J4_toString_0e30d lm_X13_43 (by omega)) vs_J4_toString_0e30d rfl (fun u hu => sJ4_toString_0e30d _ _ _ _ _ hu) (fun e => ite_ne (by unfold mJ4_toString_0e30d at e; exact e)) (sum_le (sum_R (sum_R sum_nil)) (by decide)) rfl (fun v39 h40 => ?_)
        refine j_goto (q := 109) hx (dc kX13_all_0 48 rfl) (by decide) ?_
        exact hb109 x0 v4 v4 v39 h40
    · refine j_new (q := 45) hx (dc kX13_all_0 20 rfl) cf16 (by decide) nw_X13_32 rfl (fun v42 hvv42 h41 => ?_)
      refine j_dup (q := 46) hx (dc kX13_all_0 21 rfl) (vR_cat _ _) rfl ?_
      refine w_cIVW (q := 49) (As := []) (st := [vR x.2.2.2 v42]) hx (dc kX13_all_0 22 rfl) (cI _ my_J4_init_da8c8 lm_X13_34 (by omega)) is_J4_init_da8c8 rfl rfl (fun u hu => sJ4_init_da8c8 hvv42 _ _ _ _ hu) hvv42 (sum_le (sum_R sum_nil) (by decide)) rfl (fun h44 => ?_)
      refine j_ldcS (a := 7) (q := 51) hx (show (_, _, "!", _) ∈ strs0 by decide +kernel) (dc kX13_all_0 23 rfl) rfl ?_
      refine w_cVRW (q := 54) (As := [vR x.2.2.2 17]) (st := []) hx (dc kX13_all_0 24 rfl) cf16 (by decide) rfl (cI _ my_J4_append_15ec4 lm_X13_37 (by omega)) vs_J4_append_15ec4 rfl (fun u hu => sJ4_append_15ec4 _ _ _ _ _ _ hu) (fun e => ite_ne (by unfold mJ4_append_15ec4 at e; exact e)) (Nat.zero_le _) rfl (fun v45 h46 => ?_)
      refine j_aload_n (q := 55) hx (dc kX13_all_0 25 rfl) rfl 0 rfl rfl ?_
      refine w_gR (q := 58) hx (dc kX13_all_0 26 rfl) ff_X13_2 lk_X13_16 rfl (fun v47 => ?_)
      refine j_iconst (q := 59) (v := (0 : Int32)) hx (dc kX13_all_0 27 rfl) (by decide) rfl ?_
      refine j_ldR (t := 2) (q := 60) hx (dc kX13_all_0 28 rfl) rfl (by decide) rfl (fun v48 => ?_)
      refine w_cVRW (q := 63) (As := []) (st := [vR x.2.2.2 v45]) hx (dc kX13_all_0 29 rfl) cf13 (by decide) rfl (cI _ my_X13_one lm_X13_53 (by omega)) vs_X13_one rfl (fun u hu => hg1 _ _ _ _ _ hu) (hk1 _ _) (sum_le (sum_R sum_nil) (by decide)) rfl (fun v49 h50 => ?_)
      refine w_cVRW (q := 66) (As := [vR x.2.2.2 v49]) (st := []) hx (dc kX13_all_0 30 rfl) cf16 (by decide) rfl (cI _ my_J4_append_15ec4 lm_X13_37 (by omega)) vs_J4_append_15ec4 rfl (fun u hu => sJ4_append_15ec4 _ _ _ _ _ _ hu) (fun e => ite_ne (by unfold mJ4_append_15ec4 at e; exact e)) (Nat.zero_le _) rfl (fun v51 h52 => ?_)
      refine w_cVRW (q := 69) (As := []) (st := []) hx (dc kX13_all_0 31 rfl) cf16 (by decide) rfl (cI _ my_J4_toString_0e30d lm_X13_43 (by omega)) vs_J4_toString_0e30d rfl (fun u hu => sJ4_toString_0e30d _ _ _ _ _ hu) (fun e => ite_ne (by unfold mJ4_toString_0e30d at e; exact e)) (Nat.zero_le _) rfl (fun v53 h54 => ?_)
      exact r_aW hx (Or.inl ⟨_, rfl⟩) hR (dc kX13_all_0 32 rfl)
  · refine j_new (q := 10) hx (dc kX13_all_0 3 rfl) cf16 (by decide) nw_X13_32 rfl (fun v56 hvv56 h55 => ?_)
    refine j_dup (q := 11) hx (dc kX13_all_0 4 rfl) (vR_cat _ _) rfl ?_
    refine w_cIVW (q := 14) (As := []) (st := [vR x.2.2.2 v56]) hx (dc kX13_all_0 5 rfl) (cI _ my_J4_init_da8c8 lm_X13_34 (by omega)) is_J4_init_da8c8 rfl rfl (fun u hu => sJ4_init_da8c8 hvv56 _ _ _ _ hu) hvv56 (sum_le (sum_R sum_nil) (by decide)) rfl (fun h58 => ?_)
    refine j_ldcS (a := 4) (q := 16) hx (show (_, _, "", _) ∈ strs0 by decide +kernel) (dc kX13_all_0 6 rfl) rfl ?_
    refine w_cVRW (q := 19) (As := [vR x.2.2.2 14]) (st := []) hx (dc kX13_all_0 7 rfl) cf16 (by decide) rfl (cI _ my_J4_append_15ec4 lm_X13_37 (by omega)) vs_J4_append_15ec4 rfl (fun u hu => sJ4_append_15ec4 _ _ _ _ _ _ hu) (fun e => ite_ne (by unfold mJ4_append_15ec4 at e; exact e)) (Nat.zero_le _) rfl (fun v59 h60 => ?_)
    refine j_bipush (q := 21) (v := (97 : Int32)) hx (dc kX13_all_0 8 rfl) (by decide) rfl ?_
    refine j_aload_n (q := 22) hx (dc kX13_all_0 9 rfl) rfl 0 rfl rfl ?_
    refine w_gI (q := 25) hx (dc kX13_all_0 10 rfl) ff_X13_1 lk_X13_13 rfl (fun v61 => ?_)
    refine j_iadd (q := 26) hx (dc kX13_all_0 11 rfl) rfl ?_
    refine j_i2c (q := 27) hx (dc kX13_all_0 12 rfl) rfl ?_
    refine w_cVRW (q := 30) (As := [.int (i2cV ((97 : Int32) + v61))]) (st := []) hx (dc kX13_all_0 13 rfl) cf16 (by decide) rfl (cI _ my_J4_append_cf468 lm_X13_48 (by omega)) vs_J4_append_cf468 rfl (fun u hu => sJ4_append_cf468 _ _ _ _ _ _ hu) (fun e => ite_ne (by unfold mJ4_append_cf468 at e; exact e)) (Nat.zero_le _) rfl (fun v62 h63 => ?_)
    refine w_cVRW (q := 33) (As := []) (st := []) hx (dc kX13_all_0 14 rfl) cf16 (by decide) rfl (cI _ my_J4_toString_0e30d lm_X13_43 (by omega)) vs_J4_toString_0e30d rfl (fun u hu => sJ4_toString_0e30d _ _ _ _ _ hu) (fun e => ite_ne (by unfold mJ4_toString_0e30d at e; exact e)) (Nat.zero_le _) rfl (fun v64 h65 => ?_)
    exact r_aW hx (Or.inl ⟨_, rfl⟩) hR (dc kX13_all_0 15 rfl)
set_option maxHeartbeats 4000000 in
set_option maxRecDepth 100000 in
theorem sX13_one_F (d : Nat) (hd : 8 ≤ d) (g : GTX13_all) (hg0 : ∀ (l : Launch) (w : Wd) (x0 : Nat) (h : Hp) (u : (Nat × Hp)), g.1 x0 h = some u → M1 l w mi_X13_all d [vR w x0] h u.2 (some (vR w u.1))) (hk0 : ∀ (x0 : Nat) (h : Hp), g.1 x0 h ≠ none → (hpS h x0).1 = 14) (hg1 : ∀ (l : Launch) (w : Wd) (x0 : Nat) (h : Hp) (u : (Nat × Hp)), g.2 x0 h = some u → M1 l w mi_X13_one d [vR w x0] h u.2 (some (vR w u.1))) (hk1 : ∀ (x0 : Nat) (h : Hp), g.2 x0 h ≠ none → (hpS h x0).1 = 14) (l : Launch) (w : Wd) (x0 : Nat) (h : Hp) (u : (Nat × Hp)) (hK : mX13_one_F g x0 h = some u) : M1 l w mi_X13_one (d + 1) [vR w x0] h u.2 (some (vR w u.1)) := by
  refine M1.of (own := RX13) (T := fun _ r => r = u) hK (by decide +kernel) rfl (by first | (simp only [lg_lenR, lg_lenI, lg_lenL, lg_len0]; decide) | decide) (fun x hx hnl hhf hl hw hret hnm hQ h0e => ⟨?_, rfl⟩)
  subst hw
  subst hl
  have hR : Rt x h u.2 (some (vR x.2.2.2 u.1)) ((some (.object "java/lang/String"))) := ⟨h0e, hhf, hret, hQ⟩
  have hn : ∀ i, i < 1 → i < x.2.2.1.1.1 := fun i hi => by rw [hnl]; exact hi
  have e0 : lv_args 0 [vR x.2.2.2 x0] = [(0, vR x.2.2.2 x0)] := by simp only [lv_argsR, lv_argsI, lv_argsL, lv_args0]
  rw [e0]
  have hb15 : ∀ (x0 : Nat) (h : Hp), J x 15 [(0, vR x.2.2.2 x0)] [] h (mX13_one_b15 g x0 h) (fun r => r = u) := by
    intro x0 h
    unfold mX13_one_b15
    refine j_aload_n (q := 16) hx (dc kX13_one_0 7 rfl) rfl 0 rfl rfl ?_
    refine w_cVRW (q := 19) (As := []) (st := []) hx (dc kX13_one_0 8 rfl) cf13 (by decide) rfl (cI _ my_X13_all lm_X13_28 (by omega)) vs_X13_all rfl (fun u hu => hg0 _ _ _ _ _ hu) (hk0 _ _) (Nat.zero_le _) rfl (fun v2 h3 => ?_)
    refine j_goto (q := 49) hx (dc kX13_one_0 9 rfl) (by decide) ?_
    exact r_aW hx (Or.inl ⟨_, rfl⟩) hR (dc kX13_one_0 21 rfl)
  unfold mX13_one_F
  refine J.ckd fun hck => ?_
  refine j_aload_n (q := 1) hx (dc kX13_one_0 0 rfl) rfl 0 rfl rfl ?_
  refine w_gI (q := 4) hx (dc kX13_one_0 1 rfl) ff_X13_0 lk_X13_7 rfl (fun v1 => ?_)
  refine j_if_eq (q := 7) (tgt := 15) hx (dc kX13_one_0 2 rfl) (by decide) Iff.rfl rfl ?_ ?_
  · exact hb15 x0 h
  · refine j_aload_n (q := 8) hx (dc kX13_one_0 3 rfl) rfl 0 rfl rfl ?_
    refine w_gI (q := 11) hx (dc kX13_one_0 4 rfl) ff_X13_0 lk_X13_7 rfl (fun v4 => ?_)
    refine j_iconst (q := 12) (v := (1 : Int32)) hx (dc kX13_one_0 5 rfl) (by decide) rfl ?_
    refine j_icmp_neS (q := 15) (tgt := 22) hx (dc kX13_one_0 6 rfl) (by decide) rfl ?_ ?_
    · refine j_new (q := 25) hx (dc kX13_one_0 10 rfl) cf16 (by decide) nw_X13_32 rfl (fun v6 hvv6 h5 => ?_)
      refine j_dup (q := 26) hx (dc kX13_one_0 11 rfl) (vR_cat _ _) rfl ?_
      refine w_cIVW (q := 29) (As := []) (st := [vR x.2.2.2 v6]) hx (dc kX13_one_0 12 rfl) (cI _ my_J4_init_da8c8 lm_X13_34 (by omega)) is_J4_init_da8c8 rfl rfl (fun u hu => sJ4_init_da8c8 hvv6 _ _ _ _ hu) hvv6 (sum_le (sum_R sum_nil) (by decide)) rfl (fun h8 => ?_)
      refine j_ldcS (a := 8) (q := 31) hx (show (_, _, "(", _) ∈ strs0 by decide +kernel) (dc kX13_one_0 13 rfl) rfl ?_
      refine w_cVRW (q := 34) (As := [vR x.2.2.2 18]) (st := []) hx (dc kX13_one_0 14 rfl) cf16 (by decide) rfl (cI _ my_J4_append_15ec4 lm_X13_37 (by omega)) vs_J4_append_15ec4 rfl (fun u hu => sJ4_append_15ec4 _ _ _ _ _ _ hu) (fun e => ite_ne (by unfold mJ4_append_15ec4 at e; exact e)) (Nat.zero_le _) rfl (fun v9 h10 => ?_)
      refine j_aload_n (q := 35) hx (dc kX13_one_0 15 rfl) rfl 0 rfl rfl ?_
      refine w_cVRW (q := 38) (As := []) (st := [vR x.2.2.2 v9]) hx (dc kX13_one_0 16 rfl) cf13 (by decide) rfl (cI _ my_X13_all lm_X13_28 (by omega)) vs_X13_all rfl (fun u hu => hg0 _ _ _ _ _ hu) (hk0 _ _) (sum_le (sum_R sum_nil) (by decide)) rfl (fun v11 h12 => ?_)
      refine w_cVRW (q := 41) (As := [vR x.2.2.2 v11]) (st := []) hx (dc kX13_one_0 17 rfl) cf16 (by decide) rfl (cI _ my_J4_append_15ec4 lm_X13_37 (by omega)) vs_J4_append_15ec4 rfl (fun u hu => sJ4_append_15ec4 _ _ _ _ _ _ hu) (fun e => ite_ne (by unfold mJ4_append_15ec4 at e; exact e)) (Nat.zero_le _) rfl (fun v13 h14 => ?_)
      refine j_ldcS (a := 9) (q := 43) hx (show (_, _, ")", _) ∈ strs0 by decide +kernel) (dc kX13_one_0 18 rfl) rfl ?_
      refine w_cVRW (q := 46) (As := [vR x.2.2.2 19]) (st := []) hx (dc kX13_one_0 19 rfl) cf16 (by decide) rfl (cI _ my_J4_append_15ec4 lm_X13_37 (by omega)) vs_J4_append_15ec4 rfl (fun u hu => sJ4_append_15ec4 _ _ _ _ _ _ hu) (fun e => ite_ne (by unfold mJ4_append_15ec4 at e; exact e)) (Nat.zero_le _) rfl (fun v15 h16 => ?_)
      refine w_cVRW (q := 49) (As := []) (st := []) hx (dc kX13_one_0 20 rfl) cf16 (by decide) rfl (cI _ my_J4_toString_0e30d lm_X13_43 (by omega)) vs_J4_toString_0e30d rfl (fun u hu => sJ4_toString_0e30d _ _ _ _ _ hu) (fun e => ite_ne (by unfold mJ4_toString_0e30d at e; exact e)) (Nat.zero_le _) rfl (fun v17 h18 => ?_)
      exact r_aW hx (Or.inl ⟨_, rfl⟩) hR (dc kX13_one_0 21 rfl)
    · exact hb15 x0 h
theorem sg_X13_all : ∀ n : Nat, (∀ (l : Launch) (w : Wd) (x0 : Nat) (h : Hp) (u : (Nat × Hp)), mX13_all n x0 h = some u → M1 l w mi_X13_all (8 + n) [vR w x0] h u.2 (some (vR w u.1))) ∧
  (∀ (x0 : Nat) (h : Hp), mX13_all n x0 h ≠ none → (hpS h x0).1 = 14) ∧
  (∀ (l : Launch) (w : Wd) (x0 : Nat) (h : Hp) (u : (Nat × Hp)), mX13_one n x0 h = some u → M1 l w mi_X13_one (8 + n) [vR w x0] h u.2 (some (vR w u.1))) ∧
  (∀ (x0 : Nat) (h : Hp), mX13_one n x0 h ≠ none → (hpS h x0).1 = 14) := by
  intro n
  induction n with
  | zero => exact ⟨fun _  _ _ _ _ e => (by cases e), fun _ _ e => absurd rfl e, fun _  _ _ _ _ e => (by cases e), fun _ _ e => absurd rfl e⟩
  | succ n ih =>
    obtain ⟨hg0, hk0, hg1, hk1⟩ := ih
    exact ⟨sX13_all_F (8 + n) (by omega) (mg_X13_all n) hg0 hk0 hg1 hk1, fun x0 h e => ite_ne (by have e2 : mX13_all_F (mg_X13_all n) x0 h ≠ none := e; unfold mX13_all_F at e2; exact e2), sX13_one_F (8 + n) (by omega) (mg_X13_all n) hg0 hk0 hg1 hk1, fun x0 h e => ite_ne (by have e2 : mX13_one_F (mg_X13_all n) x0 h ≠ none := e; unfold mX13_one_F at e2; exact e2)⟩
theorem sX13_all (n : Nat) (l : Launch) (w : Wd) (x0 : Nat) (h : Hp) (u : (Nat × Hp)) (hu : mX13_all n x0 h = some u) : M1 l w mi_X13_all (8 + n) [vR w x0] h u.2 (some (vR w u.1)) := (sg_X13_all n).1 l w x0 h u hu
theorem kX13_all (n : Nat) (x0 : Nat) (h : Hp) (e : mX13_all n x0 h ≠ none) : (hpS h x0).1 = 14 := (sg_X13_all n).2.1 x0 h e
theorem sX13_one (n : Nat) (l : Launch) (w : Wd) (x0 : Nat) (h : Hp) (u : (Nat × Hp)) (hu : mX13_one n x0 h = some u) : M1 l w mi_X13_one (8 + n) [vR w x0] h u.2 (some (vR w u.1)) := (sg_X13_all n).2.2.1 l w x0 h u hu
theorem kX13_one (n : Nat) (x0 : Nat) (h : Hp) (e : mX13_one n x0 h ≠ none) : (hpS h x0).1 = 14 := (sg_X13_all n).2.2.2 x0 h e

