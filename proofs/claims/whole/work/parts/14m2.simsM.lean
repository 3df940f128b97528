set_option maxHeartbeats 4000000 in
set_option maxRecDepth 100000 in
theorem sX12_tellsOf (l : Launch) (w : Wd) (x0 : Nat) (x1 : Int32) (x2 : Int32) (x3 : Int32) (h : Hp) (u : (Int32 × Hp)) (hK : mX12_tellsOf x0 x1 x2 x3 h = some u) : M1 l w mi_X12_tellsOf 4 [vR w x0, .int x1, .int x2, .int x3] h u.2 (some (.int u.1)) := by
  refine M1.of (own := RX12) (T := fun _ r => r = u) hK (by decide +kernel) rfl (by first | (simp only [lg_lenR, lg_lenI, lg_lenL, lg_len0]; decide) | decide) (fun x hx hnl hhf hl hw hret hnm hQ h0e => ⟨?_, rfl⟩)
  subst hw
  subst hl
  have hR : Rt x h u.2 (some (.int u.1)) ((some .int)) := ⟨h0e, hhf, hret, hQ⟩
  have hn : ∀ i, i < 5 → i < x.2.2.1.1.1 := fun i hi => by rw [hnl]; exact hi
  have e0 : lv_args 0 [vR x.2.2.2 x0, .int x1, .int x2, .int x3] = [(0, vR x.2.2.2 x0), (1, .int x1), (2, .int x2), (3, .int x3)] := by simp only [lv_argsR, lv_argsI, lv_argsL, lv_args0]
  rw [e0]
  unfold mX12_tellsOf
  refine J.ckd fun hck => ?_
  refine j_iload_n (q := 1) hx (dc kX12_tellsOf_0 0 rfl) rfl 3 rfl rfl ?_
  refine j_if_neS (q := 4) (tgt := 11) hx (dc kX12_tellsOf_0 1 rfl) (by decide) rfl ?_ ?_
  · refine j_iload_n (q := 12) hx (dc kX12_tellsOf_0 7 rfl) rfl 3 rfl rfl ?_
    refine j_iconst (q := 13) (v := (1 : Int32)) hx (dc kX12_tellsOf_0 8 rfl) (by decide) rfl ?_
    refine j_icmp_neS (q := 16) (tgt := 54) hx (dc kX12_tellsOf_0 9 rfl) (by decide) rfl ?_ ?_
    · refine j_aload_n (q := 55) hx (dc kX12_tellsOf_0 32 rfl) rfl 0 rfl rfl ?_
      refine j_aload_n (q := 56) hx (dc kX12_tellsOf_0 33 rfl) rfl 0 rfl rfl ?_
      refine w_gR (q := 59) hx (dc kX12_tellsOf_0 34 rfl) ff_X12_27 lk_X12_55 rfl (fun v1 => ?_)
      refine j_iload_n (q := 60) hx (dc kX12_tellsOf_0 35 rfl) rfl 1 rfl rfl ?_
      refine w_cVIR (q := 63) (As := [vR x.2.2.2 v1, .int x1]) (st := []) hx (dc kX12_tellsOf_0 36 rfl) cf12 (by decide) rfl (cI _ my_X12_holdsIn lm_X12_318 (by decide)) vs_X12_holdsIn rfl (fun u hu => sX12_holdsIn _ _ _ _ _ _ _ hu) (fun e => ite_ne (by unfold mX12_holdsIn at e; exact e)) (Nat.zero_le _) rfl (fun v2 => ?_)
      refine j_istore (q := 65) (i := 4) (l2 := [(0, vR x.2.2.2 x0)]) hx (dc kX12_tellsOf_0 37 rfl) (hn 4 (by decide)) [0] rfl ⟨⟨show (0 : Nat) ≠ 4 by decide, Or.inl (show (0 : Nat) + 1 ≠ 4 by decide)⟩, trivial⟩ rfl ?_
      refine j_iload (q := 67) hx (dc kX12_tellsOf_0 38 rfl) 0 rfl rfl ?_
      refine j_if_neS (q := 70) (tgt := 74) hx (dc kX12_tellsOf_0 39 rfl) (by decide) rfl ?_ ?_
      · refine j_iload (q := 76) hx (dc kX12_tellsOf_0 42 rfl) 0 rfl rfl ?_
        refine j_aload_n (q := 77) hx (dc kX12_tellsOf_0 43 rfl) rfl 1 rfl rfl ?_
        refine w_gR (q := 80) hx (dc kX12_tellsOf_0 44 rfl) ff_X12_27 lk_X12_55 rfl (fun v4 => ?_)
        refine w_cSIR (q := 83) (As := [vR x.2.2.2 v4]) (st := [.int v2]) hx (dc kX12_tellsOf_0 45 rfl) (cI _ my_X12_many lm_X12_322 (by decide)) st_X12_many rfl (fun u hu => sX12_many _ _ _ _ _ hu) (sum_le (sum_I sum_nil) (by decide)) rfl (fun v5 => ?_)
        refine j_icmp_neS (q := 86) (tgt := 90) hx (dc kX12_tellsOf_0 46 rfl) (by decide) rfl ?_ ?_
        · refine j_iconst (q := 91) (v := (2 : Int32)) hx (dc kX12_tellsOf_0 49 rfl) (by decide) rfl ?_
          exact r_iW hx hR (dc kX12_tellsOf_0 50 rfl)
        · refine j_iconst (q := 87) (v := (1 : Int32)) hx (dc kX12_tellsOf_0 47 rfl) (by decide) rfl ?_
          refine j_goto (q := 91) hx (dc kX12_tellsOf_0 48 rfl) (by decide) ?_
          exact r_iW hx hR (dc kX12_tellsOf_0 50 rfl)
      · refine j_iconst (q := 71) (v := (0 : Int32)) hx (dc kX12_tellsOf_0 40 rfl) (by decide) rfl ?_
        refine j_goto (q := 91) hx (dc kX12_tellsOf_0 41 rfl) (by decide) ?_
        exact r_iW hx hR (dc kX12_tellsOf_0 50 rfl)
    · refine j_aload_n (q := 17) hx (dc kX12_tellsOf_0 10 rfl) rfl 0 rfl rfl ?_
      refine j_aload_n (q := 18) hx (dc kX12_tellsOf_0 11 rfl) rfl 0 rfl rfl ?_
      refine w_gR (q := 21) hx (dc kX12_tellsOf_0 12 rfl) ff_X12_28 lk_X12_58 rfl (fun v7 => ?_)
      refine j_aload_n (q := 22) hx (dc kX12_tellsOf_0 13 rfl) rfl 0 rfl rfl ?_
      refine j_iload_n (q := 23) hx (dc kX12_tellsOf_0 14 rfl) rfl 2 rfl rfl ?_
      refine j_iconst (q := 24) (v := (4 : Int32)) hx (dc kX12_tellsOf_0 15 rfl) (by decide) rfl ?_
      refine w_cVIR (q := 27) (As := [.int x2, .int (4 : Int32)]) (st := [vR x.2.2.2 v7, vR x.2.2.2 x0]) hx (dc kX12_tellsOf_0 16 rfl) cf12 (by decide) rfl (cI _ my_X12_its lm_X12_339 (by decide)) vs_X12_its rfl (fun u hu => sX12_its _ _ _ _ _ _ _ hu) (fun e => ite_ne (by unfold mX12_its at e; exact e)) (sum_le (sum_R (sum_R sum_nil)) (by decide)) rfl (fun v8 => ?_)
      refine j_aload_n (q := 28) hx (dc kX12_tellsOf_0 17 rfl) rfl 0 rfl rfl ?_
      refine j_iload_n (q := 29) hx (dc kX12_tellsOf_0 18 rfl) rfl 2 rfl rfl ?_
      refine j_iconst (q := 30) (v := (5 : Int32)) hx (dc kX12_tellsOf_0 19 rfl) (by decide) rfl ?_
      refine w_cVIR (q := 33) (As := [.int x2, .int (5 : Int32)]) (st := [.int v8, vR x.2.2.2 v7, vR x.2.2.2 x0]) hx (dc kX12_tellsOf_0 20 rfl) cf12 (by decide) rfl (cI _ my_X12_its lm_X12_339 (by decide)) vs_X12_its rfl (fun u hu => sX12_its _ _ _ _ _ _ _ hu) (fun e => ite_ne (by unfold mX12_its at e; exact e)) (sum_le (sum_I (sum_R (sum_R sum_nil))) (by decide)) rfl (fun v10 => ?_)
      refine w_cVVW (q := 36) (As := [vR x.2.2.2 v7, .int v8, .int v10]) (st := []) hx (dc kX12_tellsOf_0 21 rfl) cf12 (by decide) rfl (cI _ my_X12_laysAgreed lm_X12_335 (by decide)) vs_X12_laysAgreed rfl (fun u hu => sX12_laysAgreed _ _ _ _ _ _ _ _ hu) (fun e => ite_ne (by unfold mX12_laysAgreed at e; exact e)) (Nat.zero_le _) rfl (fun h13 => ?_)
      refine j_aload_n (q := 37) hx (dc kX12_tellsOf_0 22 rfl) rfl 0 rfl rfl ?_
      refine j_aload_n (q := 38) hx (dc kX12_tellsOf_0 23 rfl) rfl 0 rfl rfl ?_
      refine w_gR (q := 41) hx (dc kX12_tellsOf_0 24 rfl) ff_X12_28 lk_X12_58 rfl (fun v14 => ?_)
      refine j_iload_n (q := 42) hx (dc kX12_tellsOf_0 25 rfl) rfl 1 rfl rfl ?_
      refine w_cVIR (q := 45) (As := [vR x.2.2.2 v14, .int x1]) (st := []) hx (dc kX12_tellsOf_0 26 rfl) cf12 (by decide) rfl (cI _ my_X12_isSure lm_X12_358 (by decide)) vs_X12_isSure rfl (fun u hu => sX12_isSure _ _ _ _ _ _ _ hu) (fun e => ite_ne (by unfold mX12_isSure at e; exact e)) (Nat.zero_le _) rfl (fun v15 => ?_)
      refine j_if_eq (q := 48) (tgt := 52) hx (dc kX12_tellsOf_0 27 rfl) (by decide) Iff.rfl rfl ?_ ?_
      · refine j_iconst (q := 53) (v := (0 : Int32)) hx (dc kX12_tellsOf_0 30 rfl) (by decide) rfl ?_
        exact r_iW hx hR (dc kX12_tellsOf_0 31 rfl)
      · refine j_iconst (q := 49) (v := (1 : Int32)) hx (dc kX12_tellsOf_0 28 rfl) (by decide) rfl ?_
        refine j_goto (q := 53) hx (dc kX12_tellsOf_0 29 rfl) (by decide) ?_
        exact r_iW hx hR (dc kX12_tellsOf_0 31 rfl)
  · refine j_aload_n (q := 5) hx (dc kX12_tellsOf_0 2 rfl) rfl 0 rfl rfl ?_
    refine j_iload_n (q := 6) hx (dc kX12_tellsOf_0 3 rfl) rfl 1 rfl rfl ?_
    refine j_iload_n (q := 7) hx (dc kX12_tellsOf_0 4 rfl) rfl 2 rfl rfl ?_
    refine w_cVIW (q := 10) (As := [.int x1, .int x2]) (st := []) hx (dc kX12_tellsOf_0 5 rfl) cf12 (by decide) rfl (cI _ my_X12_seen lm_X12_392 (by decide)) vs_X12_seen rfl (fun u hu => sX12_seen _ _ _ _ _ _ _ hu) (fun e => ite_ne (by unfold mX12_seen at e; exact e)) (Nat.zero_le _) rfl (fun v17 h18 => ?_)
    exact r_iW hx hR (dc kX12_tellsOf_0 6 rfl)

set_option maxHeartbeats 4000000 in
set_option maxRecDepth 100000 in
theorem sX12_element (l : Launch) (w : Wd) (x0 : Nat) (x1 : Int32) (x2 : Int32) (x3 : Int32) (h : Hp) (u : (Int32 × Hp)) (hK : mX12_element x0 x1 x2 x3 h = some u) : M1 l w mi_X12_element 5 [vR w x0, .int x1, .int x2, .int x3] h u.2 (some (.int u.1)) := by
  refine M1.of (own := RX12) (T := fun _ r => r = u) hK (by decide +kernel) rfl (by first | (simp only [lg_lenR, lg_lenI, lg_lenL, lg_len0]; decide) | decide) (fun x hx hnl hhf hl hw hret hnm hQ h0e => ⟨?_, rfl⟩)
  subst hw
  subst hl
  have hR : Rt x h u.2 (some (.int u.1)) ((some .int)) := ⟨h0e, hhf, hret, hQ⟩
  have hn : ∀ i, i < 4 → i < x.2.2.1.1.1 := fun i hi => by rw [hnl]; exact hi
  have e0 : lv_args 0 [vR x.2.2.2 x0, .int x1, .int x2, .int x3] = [(0, vR x.2.2.2 x0), (1, .int x1), (2, .int x2), (3, .int x3)] := by simp only [lv_argsR, lv_argsI, lv_argsL, lv_args0]
  rw [e0]
  unfold mX12_element
  refine J.ckd fun hck => ?_
  refine j_aload_n (q := 1) hx (dc kX12_element_0 0 rfl) rfl 0 rfl rfl ?_
  refine j_iload_n (q := 2) hx (dc kX12_element_0 1 rfl) rfl 1 rfl rfl ?_
  refine w_cVIR (q := 5) (As := [.int x1]) (st := []) hx (dc kX12_element_0 2 rfl) cf12 (by decide) rfl (cI _ my_X12_isCount lm_X12_380 (by decide)) vs_X12_isCount rfl (fun u hu => sX12_isCount _ _ _ _ _ _ hu) (fun e => ite_ne (by unfold mX12_isCount at e; exact e)) (Nat.zero_le _) rfl (fun v1 => ?_)
  refine j_if_eq (q := 8) (tgt := 47) hx (dc kX12_element_0 3 rfl) (by decide) Iff.rfl rfl ?_ ?_
  · refine j_iconst (q := 48) (v := (-1 : Int32)) hx (dc kX12_element_0 27 rfl) (by decide) rfl ?_
    exact r_iW hx hR (dc kX12_element_0 28 rfl)
  · refine j_iload_n (q := 9) hx (dc kX12_element_0 4 rfl) rfl 2 rfl rfl ?_
    refine j_iconst (q := 10) (v := (0 : Int32)) hx (dc kX12_element_0 5 rfl) (by decide) rfl ?_
    refine j_aload_n (q := 11) hx (dc kX12_element_0 6 rfl) rfl 0 rfl rfl ?_
    refine j_iload_n (q := 12) hx (dc kX12_element_0 7 rfl) rfl 1 rfl rfl ?_
    refine w_cVIR (q := 15) (As := [.int x1]) (st := [.int (0 : Int32), .int x2]) hx (dc kX12_element_0 8 rfl) cf12 (by decide) rfl (cI _ my_X12_needs lm_X12_353 (by decide)) vs_X12_needs rfl (fun u hu => sX12_needs _ _ _ _ _ _ hu) (fun e => ite_ne (by unfold mX12_needs at e; exact e)) (sum_le (sum_I (sum_I sum_nil)) (by decide)) rfl (fun v3 => ?_)
    refine j_iconst (q := 16) (v := (1 : Int32)) hx (dc kX12_element_0 9 rfl) (by decide) rfl ?_
    refine j_isub (q := 17) hx (dc kX12_element_0 10 rfl) rfl ?_
    refine w_cSIR (q := 20) (As := [.int x2, .int (0 : Int32), .int (v3 - (1 : Int32))]) (st := []) hx (dc kX12_element_0 11 rfl) (cI _ my_X12_in lm_X12_85 (by decide)) st_X12_in rfl (fun u hu => sX12_in _ _ _ _ _ _ _ hu) (Nat.zero_le _) rfl (fun v5 => ?_)
    refine j_if_eq (q := 23) (tgt := 47) hx (dc kX12_element_0 12 rfl) (by decide) Iff.rfl rfl ?_ ?_
    · refine j_iconst (q := 48) (v := (-1 : Int32)) hx (dc kX12_element_0 27 rfl) (by decide) rfl ?_
      exact r_iW hx hR (dc kX12_element_0 28 rfl)
    · refine j_iload_n (q := 24) hx (dc kX12_element_0 13 rfl) rfl 3 rfl rfl ?_
      refine j_iconst (q := 25) (v := (0 : Int32)) hx (dc kX12_element_0 14 rfl) (by decide) rfl ?_
      refine j_iconst (q := 26) (v := (2 : Int32)) hx (dc kX12_element_0 15 rfl) (by decide) rfl ?_
      refine w_cSIR (q := 29) (As := [.int x3, .int (0 : Int32), .int (2 : Int32)]) (st := []) hx (dc kX12_element_0 16 rfl) (cI _ my_X12_in lm_X12_85 (by decide)) st_X12_in rfl (fun u hu => sX12_in _ _ _ _ _ _ _ hu) (Nat.zero_le _) rfl (fun v7 => ?_)
      refine j_if_eq (q := 32) (tgt := 47) hx (dc kX12_element_0 17 rfl) (by decide) Iff.rfl rfl ?_ ?_
      · refine j_iconst (q := 48) (v := (-1 : Int32)) hx (dc kX12_element_0 27 rfl) (by decide) rfl ?_
        exact r_iW hx hR (dc kX12_element_0 28 rfl)
      · refine j_aload_n (q := 33) hx (dc kX12_element_0 18 rfl) rfl 0 rfl rfl ?_
        refine j_aload_n (q := 34) hx (dc kX12_element_0 19 rfl) rfl 0 rfl rfl ?_
        refine j_iload_n (q := 35) hx (dc kX12_element_0 20 rfl) rfl 1 rfl rfl ?_
        refine j_iload_n (q := 36) hx (dc kX12_element_0 21 rfl) rfl 2 rfl rfl ?_
        refine w_cVIR (q := 39) (As := [.int x1, .int x2]) (st := [vR x.2.2.2 x0]) hx (dc kX12_element_0 22 rfl) cf12 (by decide) rfl (cI _ my_X12_need lm_X12_355 (by decide)) vs_X12_need rfl (fun u hu => sX12_need _ _ _ _ _ _ _ hu) (fun e => ite_ne (by unfold mX12_need at e; exact e)) (sum_le (sum_R sum_nil) (by decide)) rfl (fun v9 => ?_)
        refine j_iload_n (q := 40) hx (dc kX12_element_0 23 rfl) rfl 1 rfl rfl ?_
        refine j_iload_n (q := 41) hx (dc kX12_element_0 24 rfl) rfl 3 rfl rfl ?_
        refine w_cVIW (q := 44) (As := [.int v9, .int x1, .int x3]) (st := []) hx (dc kX12_element_0 25 rfl) cf12 (by decide) rfl (cI _ my_X12_tellsOf lm_X12_395 (by decide)) vs_X12_tellsOf rfl (fun u hu => sX12_tellsOf _ _ _ _ _ _ _ _ hu) (fun e => ite_ne (by unfold mX12_tellsOf at e; exact e)) (Nat.zero_le _) rfl (fun v11 h12 => ?_)
        refine j_goto (q := 48) hx (dc kX12_element_0 26 rfl) (by decide) ?_
        exact r_iW hx hR (dc kX12_element_0 28 rfl)

set_option maxHeartbeats 4000000 in
set_option maxRecDepth 100000 in
theorem sX12_bar (l : Launch) (w : Wd) (x0 : Nat) (x1 : Int32) (x2 : Int32) (x3 : Int32) (h : Hp) (u : (Int32 × Hp)) (hK : mX12_bar x0 x1 x2 x3 h = some u) : M1 l w mi_X12_bar 5 [vR w x0, .int x1, .int x2, .int x3] h u.2 (some (.int u.1)) := by
  refine M1.of (own := RX12) (T := fun _ r => r = u) hK (by decide +kernel) rfl (by first | (simp only [lg_lenR, lg_lenI, lg_lenL, lg_len0]; decide) | decide) (fun x hx hnl hhf hl hw hret hnm hQ h0e => ⟨?_, rfl⟩)
  subst hw
  subst hl
  have hR : Rt x h u.2 (some (.int u.1)) ((some .int)) := ⟨h0e, hhf, hret, hQ⟩
  have hn : ∀ i, i < 4 → i < x.2.2.1.1.1 := fun i hi => by rw [hnl]; exact hi
  have e0 : lv_args 0 [vR x.2.2.2 x0, .int x1, .int x2, .int x3] = [(0, vR x.2.2.2 x0), (1, .int x1), (2, .int x2), (3, .int x3)] := by simp only [lv_argsR, lv_argsI, lv_argsL, lv_args0]
  rw [e0]
  unfold mX12_bar
  refine J.ckd fun hck => ?_
  refine j_aload_n (q := 1) hx (dc kX12_bar_0 0 rfl) rfl 0 rfl rfl ?_
  refine j_iload_n (q := 2) hx (dc kX12_bar_0 1 rfl) rfl 1 rfl rfl ?_
  refine w_cVIR (q := 5) (As := [.int x1]) (st := []) hx (dc kX12_bar_0 2 rfl) cf12 (by decide) rfl (cI _ my_X12_isCount lm_X12_380 (by decide)) vs_X12_isCount rfl (fun u hu => sX12_isCount _ _ _ _ _ _ hu) (fun e => ite_ne (by unfold mX12_isCount at e; exact e)) (Nat.zero_le _) rfl (fun v1 => ?_)
  refine j_if_eq (q := 8) (tgt := 47) hx (dc kX12_bar_0 3 rfl) (by decide) Iff.rfl rfl ?_ ?_
  · refine j_iconst (q := 48) (v := (-1 : Int32)) hx (dc kX12_bar_0 27 rfl) (by decide) rfl ?_
    exact r_iW hx hR (dc kX12_bar_0 28 rfl)
  · refine j_iload_n (q := 9) hx (dc kX12_bar_0 4 rfl) rfl 2 rfl rfl ?_
    refine j_iconst (q := 10) (v := (0 : Int32)) hx (dc kX12_bar_0 5 rfl) (by decide) rfl ?_
    refine j_aload_n (q := 11) hx (dc kX12_bar_0 6 rfl) rfl 0 rfl rfl ?_
    refine j_iload_n (q := 12) hx (dc kX12_bar_0 7 rfl) rfl 1 rfl rfl ?_
    refine w_cVIR (q := 15) (As := [.int x1]) (st := [.int (0 : Int32), .int x2]) hx (dc kX12_bar_0 8 rfl) cf12 (by decide) rfl (cI _ my_X12_bars lm_X12_361 (by decide)) vs_X12_bars rfl (fun u hu => sX12_bars _ _ _ _ _ _ hu) (fun e => ite_ne (by unfold mX12_bars at e; exact e)) (sum_le (sum_I (sum_I sum_nil)) (by decide)) rfl (fun v3 => ?_)
    refine j_iconst (q := 16) (v := (1 : Int32)) hx (dc kX12_bar_0 9 rfl) (by decide) rfl ?_
    refine j_isub (q := 17) hx (dc kX12_bar_0 10 rfl) rfl ?_
    refine w_cSIR (q := 20) (As := [.int x2, .int (0 : Int32), .int (v3 - (1 : Int32))]) (st := []) hx (dc kX12_bar_0 11 rfl) (cI _ my_X12_in lm_X12_85 (by decide)) st_X12_in rfl (fun u hu => sX12_in _ _ _ _ _ _ _ hu) (Nat.zero_le _) rfl (fun v5 => ?_)
    refine j_if_eq (q := 23) (tgt := 47) hx (dc kX12_bar_0 12 rfl) (by decide) Iff.rfl rfl ?_ ?_
    · refine j_iconst (q := 48) (v := (-1 : Int32)) hx (dc kX12_bar_0 27 rfl) (by decide) rfl ?_
      exact r_iW hx hR (dc kX12_bar_0 28 rfl)
    · refine j_iload_n (q := 24) hx (dc kX12_bar_0 13 rfl) rfl 3 rfl rfl ?_
      refine j_iconst (q := 25) (v := (0 : Int32)) hx (dc kX12_bar_0 14 rfl) (by decide) rfl ?_
      refine j_iconst (q := 26) (v := (2 : Int32)) hx (dc kX12_bar_0 15 rfl) (by decide) rfl ?_
      refine w_cSIR (q := 29) (As := [.int x3, .int (0 : Int32), .int (2 : Int32)]) (st := []) hx (dc kX12_bar_0 16 rfl) (cI _ my_X12_in lm_X12_85 (by decide)) st_X12_in rfl (fun u hu => sX12_in _ _ _ _ _ _ _ hu) (Nat.zero_le _) rfl (fun v7 => ?_)
      refine j_if_eq (q := 32) (tgt := 47) hx (dc kX12_bar_0 17 rfl) (by decide) Iff.rfl rfl ?_ ?_
      · refine j_iconst (q := 48) (v := (-1 : Int32)) hx (dc kX12_bar_0 27 rfl) (by decide) rfl ?_
        exact r_iW hx hR (dc kX12_bar_0 28 rfl)
      · refine j_aload_n (q := 33) hx (dc kX12_bar_0 18 rfl) rfl 0 rfl rfl ?_
        refine j_aload_n (q := 34) hx (dc kX12_bar_0 19 rfl) rfl 0 rfl rfl ?_
        refine j_iload_n (q := 35) hx (dc kX12_bar_0 20 rfl) rfl 1 rfl rfl ?_
        refine j_iload_n (q := 36) hx (dc kX12_bar_0 21 rfl) rfl 2 rfl rfl ?_
        refine w_cVIR (q := 39) (As := [.int x1, .int x2]) (st := [vR x.2.2.2 x0]) hx (dc kX12_bar_0 22 rfl) cf12 (by decide) rfl (cI _ my_X12_barOf lm_X12_342 (by decide)) vs_X12_barOf rfl (fun u hu => sX12_barOf _ _ _ _ _ _ _ hu) (fun e => ite_ne (by unfold mX12_barOf at e; exact e)) (sum_le (sum_R sum_nil) (by decide)) rfl (fun v9 => ?_)
        refine j_iload_n (q := 40) hx (dc kX12_bar_0 23 rfl) rfl 1 rfl rfl ?_
        refine j_iload_n (q := 41) hx (dc kX12_bar_0 24 rfl) rfl 3 rfl rfl ?_
        refine w_cVIW (q := 44) (As := [.int v9, .int x1, .int x3]) (st := []) hx (dc kX12_bar_0 25 rfl) cf12 (by decide) rfl (cI _ my_X12_tellsOf lm_X12_395 (by decide)) vs_X12_tellsOf rfl (fun u hu => sX12_tellsOf _ _ _ _ _ _ _ _ hu) (fun e => ite_ne (by unfold mX12_tellsOf at e; exact e)) (Nat.zero_le _) rfl (fun v11 h12 => ?_)
        refine j_goto (q := 48) hx (dc kX12_bar_0 26 rfl) (by decide) ?_
        exact r_iW hx hR (dc kX12_bar_0 28 rfl)

set_option maxHeartbeats 4000000 in
set_option maxRecDepth 100000 in
theorem sX12_keepsAct (l : Launch) (w : Wd) (x0 : Nat) (h : Hp) (u : Hp) (hK : mX12_keepsAct x0 h = some u) : M1 l w mi_X12_keepsAct 1 [vR w x0] h u (none) := by
  refine M1.of (own := RX12) (T := fun _ r => r = u) hK (by decide +kernel) rfl (by first | (simp only [lg_lenR, lg_lenI, lg_lenL, lg_len0]; decide) | decide) (fun x hx hnl hhf hl hw hret hnm hQ h0e => ⟨?_, rfl⟩)
  subst hw
  subst hl
  have hR : Rt x h u (none) (none) := ⟨h0e, hhf, hret, hQ⟩
  have hn : ∀ i, i < 2 → i < x.2.2.1.1.1 := fun i hi => by rw [hnl]; exact hi
  have e0 : lv_args 0 [vR x.2.2.2 x0] = [(0, vR x.2.2.2 x0)] := by simp only [lv_argsR, lv_argsI, lv_argsL, lv_args0]
  rw [e0]
  have hb52 : ∀ (x0 : Nat) (x1 : Int32) (h : Hp), J x 52 [(0, vR x.2.2.2 x0), (1, .int x1)] [] h (mX12_keepsAct_l52 x0 x1 h) (fun r => r = u) := by
    intro x0 x1 h
    have hB : ∀ (x1 : Int32) (h : Hp), J x 52 [(0, vR x.2.2.2 x0), (1, .int x1)] [] h (mX12_keepsAct_l52f x0 x1 h) (TL (S := (Int32 × Hp)) x 52 (fun s => [(0, vR x.2.2.2 x0), (1, .int s.1)]) [] (fun s => s.2) (fun r => r = u)) := by
      intro x1 h
      unfold mX12_keepsAct_l52f
      refine j_iload_n (q := 53) hx (dc kX12_keepsAct_0 29 rfl) rfl 1 rfl rfl ?_
      refine j_bipush (q := 55) (v := (83 : Int32)) hx (dc kX12_keepsAct_0 30 rfl) (by decide) rfl ?_
      refine j_icmp_geS (q := 58) (tgt := 84) hx (dc kX12_keepsAct_0 31 rfl) (by decide) rfl ?_ ?_
      · refine j_exit ?_
        refine j_aload_n (q := 85) hx (dc kX12_keepsAct_0 47 rfl) rfl 0 rfl rfl ?_
        refine j_dup (q := 86) hx (dc kX12_keepsAct_0 48 rfl) (vR_cat _ _) rfl ?_
        refine w_gI (q := 89) hx (dc kX12_keepsAct_0 49 rfl) ff_X12_8 lk_X12_287 rfl (fun v2 => ?_)
        refine j_iconst (q := 90) (v := (1 : Int32)) hx (dc kX12_keepsAct_0 50 rfl) (by decide) rfl ?_
        refine j_iadd (q := 91) hx (dc kX12_keepsAct_0 51 rfl) rfl ?_
        refine w_sI (q := 94) hx (dc kX12_keepsAct_0 52 rfl) ff_X12_8 rfl lk_X12_287 (Or.inl rfl) rfl (fun h3 => ?_)
        exact r_vW hx hR (dc kX12_keepsAct_0 53 rfl)
      · refine j_aload_n (q := 59) hx (dc kX12_keepsAct_0 32 rfl) rfl 0 rfl rfl ?_
        refine w_gR (q := 62) hx (dc kX12_keepsAct_0 33 rfl) ff_X12_5 lk_X12_26 rfl (fun v4 => ?_)
        refine j_bipush (q := 64) (v := (83 : Int32)) hx (dc kX12_keepsAct_0 34 rfl) (by decide) rfl ?_
        refine j_aload_n (q := 65) hx (dc kX12_keepsAct_0 35 rfl) rfl 0 rfl rfl ?_
        refine w_gI (q := 68) hx (dc kX12_keepsAct_0 36 rfl) ff_X12_8 lk_X12_287 rfl (fun v5 => ?_)
        refine j_imul (q := 69) hx (dc kX12_keepsAct_0 37 rfl) rfl ?_
        refine j_iload_n (q := 70) hx (dc kX12_keepsAct_0 38 rfl) rfl 1 rfl rfl ?_
        refine j_iadd (q := 71) hx (dc kX12_keepsAct_0 39 rfl) rfl ?_
        refine j_aload_n (q := 72) hx (dc kX12_keepsAct_0 40 rfl) rfl 0 rfl rfl ?_
        refine w_gR (q := 75) hx (dc kX12_keepsAct_0 41 rfl) ff_X12_4 lk_X12_23 rfl (fun v6 => ?_)
        refine j_iload_n (q := 76) hx (dc kX12_keepsAct_0 42 rfl) rfl 1 rfl rfl ?_
        refine j_ldI (q := 77) hx (dc kX12_keepsAct_0 43 rfl) rfl (fun v7 => ?_)
        refine w_stI (q := 78) hx (dc kX12_keepsAct_0 44 rfl) rfl (fun h8 => ?_)
        refine j_iinc (q := 81) (l2 := [(0, vR x.2.2.2 x0)]) hx (dc kX12_keepsAct_0 45 rfl) 1 rfl (v := (1 : Int32)) (by decide) (hn 1 (by decide)) [0] rfl ⟨⟨show (0 : Nat) ≠ 1 by decide, Or.inr (vR_cat _ _)⟩, trivial⟩ rfl ?_
        refine j_goto (q := 52) hx (dc kX12_keepsAct_0 46 rfl) (by decide) ?_
        exact j_back [1, 0] ((x1 + (1 : Int32)), h8) rfl rfl
    exact j_loop (S := (Int32 × Hp)) (lvf := fun s => [(0, vR x.2.2.2 x0), (1, .int s.1)]) (hpf := fun s => s.2) (f := (fun s : (Int32 × Hp) => mX12_keepsAct_l52f x0 s.1 s.2)) (fun s => hB s.1 s.2) (x1, h)
  have hb50 : ∀ (x0 : Nat) (h : Hp), J x 50 [(0, vR x.2.2.2 x0)] [] h (mX12_keepsAct_b50 x0 h) (fun r => r = u) := by
    intro x0 h
    unfold mX12_keepsAct_b50
    refine j_iconst (q := 51) (v := (0 : Int32)) hx (dc kX12_keepsAct_0 27 rfl) (by decide) rfl ?_
    refine j_istore_n (q := 52) (i := 1) (l2 := [(0, vR x.2.2.2 x0)]) hx (dc kX12_keepsAct_0 28 rfl) rfl (hn 1 (by decide)) [0] rfl ⟨⟨show (0 : Nat) ≠ 1 by decide, Or.inr (vR_cat _ _)⟩, trivial⟩ rfl ?_
    exact j_sub [1, 0] rfl (hb52 x0 (0 : Int32) h)
  have hb12 : ∀ (x0 : Nat) (x1 : Int32) (h : Hp), J x 12 [(0, vR x.2.2.2 x0), (1, .int x1)] [] h (mX12_keepsAct_l12 x0 x1 h) (fun r => r = u) := by
    intro x0 x1 h
    have hB : ∀ (x1 : Int32) (h : Hp), J x 12 [(0, vR x.2.2.2 x0), (1, .int x1)] [] h (mX12_keepsAct_l12f x0 x1 h) (TL (S := (Int32 × Hp)) x 12 (fun s => [(0, vR x.2.2.2 x0), (1, .int s.1)]) [] (fun s => s.2) (fun r => r = u)) := by
      intro x1 h
      unfold mX12_keepsAct_l12f
      refine j_iload_n (q := 13) hx (dc kX12_keepsAct_0 6 rfl) rfl 1 rfl rfl ?_
      refine j_sipush (q := 16) (v := (1328 : Int32)) hx (dc kX12_keepsAct_0 7 rfl) (by decide) rfl ?_
      refine j_icmp_geS (q := 19) (tgt := 40) hx (dc kX12_keepsAct_0 8 rfl) (by decide) rfl ?_ ?_
      · refine j_exit ?_
        refine j_aload_n (q := 41) hx (dc kX12_keepsAct_0 21 rfl) rfl 0 rfl rfl ?_
        refine j_dup (q := 42) hx (dc kX12_keepsAct_0 22 rfl) (vR_cat _ _) rfl ?_
        refine w_gI (q := 45) hx (dc kX12_keepsAct_0 23 rfl) ff_X12_8 lk_X12_287 rfl (fun v9 => ?_)
        refine j_iconst (q := 46) (v := (1 : Int32)) hx (dc kX12_keepsAct_0 24 rfl) (by decide) rfl ?_
        refine j_isub (q := 47) hx (dc kX12_keepsAct_0 25 rfl) rfl ?_
        refine w_sI (q := 50) hx (dc kX12_keepsAct_0 26 rfl) ff_X12_8 rfl lk_X12_287 (Or.inl rfl) rfl (fun h10 => ?_)
        exact j_sub [0] rfl (hb50 x0 h10)
      · refine j_aload_n (q := 20) hx (dc kX12_keepsAct_0 9 rfl) rfl 0 rfl rfl ?_
        refine w_gR (q := 23) hx (dc kX12_keepsAct_0 10 rfl) ff_X12_5 lk_X12_26 rfl (fun v11 => ?_)
        refine j_iload_n (q := 24) hx (dc kX12_keepsAct_0 11 rfl) rfl 1 rfl rfl ?_
        refine j_bipush (q := 26) (v := (83 : Int32)) hx (dc kX12_keepsAct_0 12 rfl) (by decide) rfl ?_
        refine j_isub (q := 27) hx (dc kX12_keepsAct_0 13 rfl) rfl ?_
        refine j_aload_n (q := 28) hx (dc kX12_keepsAct_0 14 rfl) rfl 0 rfl rfl ?_
        refine w_gR (q := 31) hx (dc kX12_keepsAct_0 15 rfl) ff_X12_5 lk_X12_26 rfl (fun v12 => ?_)
        refine j_iload_n (q := 32) hx (dc kX12_keepsAct_0 16 rfl) rfl 1 rfl rfl ?_
        refine j_ldI (q := 33) hx (dc kX12_keepsAct_0 17 rfl) rfl (fun v13 => ?_)
        refine w_stI (q := 34) hx (dc kX12_keepsAct_0 18 rfl) rfl (fun h14 => ?_)
        refine j_iinc (q := 37) (l2 := [(0, vR x.2.2.2 x0)]) hx (dc kX12_keepsAct_0 19 rfl) 1 rfl (v := (1 : Int32)) (by decide) (hn 1 (by decide)) [0] rfl ⟨⟨show (0 : Nat) ≠ 1 by decide, Or.inr (vR_cat _ _)⟩, trivial⟩ rfl ?_
        refine j_goto (q := 12) hx (dc kX12_keepsAct_0 20 rfl) (by decide) ?_
        exact j_back [1, 0] ((x1 + (1 : Int32)), h14) rfl rfl
    exact j_loop (S := (Int32 × Hp)) (lvf := fun s => [(0, vR x.2.2.2 x0), (1, .int s.1)]) (hpf := fun s => s.2) (f := (fun s : (Int32 × Hp) => mX12_keepsAct_l12f x0 s.1 s.2)) (fun s => hB s.1 s.2) (x1, h)
  unfold mX12_keepsAct
  refine J.ckd fun hck => ?_
  refine j_aload_n (q := 1) hx (dc kX12_keepsAct_0 0 rfl) rfl 0 rfl rfl ?_
  refine w_gI (q := 4) hx (dc kX12_keepsAct_0 1 rfl) ff_X12_8 lk_X12_287 rfl (fun v1 => ?_)
  refine j_bipush (q := 6) (v := (16 : Int32)) hx (dc kX12_keepsAct_0 2 rfl) (by decide) rfl ?_
  refine j_icmp_neS (q := 9) (tgt := 50) hx (dc kX12_keepsAct_0 3 rfl) (by decide) rfl ?_ ?_
  · exact hb50 x0 h
  · refine j_bipush (q := 11) (v := (83 : Int32)) hx (dc kX12_keepsAct_0 4 rfl) (by decide) rfl ?_
    refine j_istore_n (q := 12) (i := 1) (l2 := [(0, vR x.2.2.2 x0)]) hx (dc kX12_keepsAct_0 5 rfl) rfl (hn 1 (by decide)) [0] rfl ⟨⟨show (0 : Nat) ≠ 1 by decide, Or.inr (vR_cat _ _)⟩, trivial⟩ rfl ?_
    exact j_sub [1, 0] rfl (hb12 x0 (83 : Int32) h)

set_option maxHeartbeats 4000000 in
set_option maxRecDepth 100000 in
theorem sX12_answered (l : Launch) (w : Wd) (x0 : Nat) (h : Hp) (u : Int32) (hK : mX12_answered x0 h = some u) : M1 l w mi_X12_answered 1 [vR w x0] h h (some (.int u)) := by
  refine M1.of (own := RX12) (T := fun _ r => r = u) hK (by decide +kernel) rfl (by first | (simp only [lg_lenR, lg_lenI, lg_lenL, lg_len0]; decide) | decide) (fun x hx hnl hhf hl hw hret hnm hQ h0e => ⟨?_, rfl⟩)
  subst hw
  subst hl
  have hR : Rt x h h (some (.int u)) ((some .int)) := ⟨h0e, hhf, hret, hQ⟩
  have hn : ∀ i, i < 3 → i < x.2.2.1.1.1 := fun i hi => by rw [hnl]; exact hi
  have e0 : lv_args 0 [vR x.2.2.2 x0] = [(0, vR x.2.2.2 x0)] := by simp only [lv_argsR, lv_argsI, lv_argsL, lv_args0]
  rw [e0]
  have hb4 : ∀ (x0 : Nat) (x1 : Int32) (x2 : Int32), J x 4 [(0, vR x.2.2.2 x0), (1, .int x1), (2, .int x2)] [] h (mX12_answered_l4 x0 x1 x2 h) (fun r => r = u) := by
    intro x0 x1 x2
    have hB : ∀ (x1 : Int32) (x2 : Int32), J x 4 [(0, vR x.2.2.2 x0), (1, .int x1), (2, .int x2)] [] h (mX12_answered_l4f x0 h x1 x2) (TL (S := (Int32 × Int32)) x 4 (fun s => [(0, vR x.2.2.2 x0), (1, .int s.1), (2, .int s.2)]) [] (fun s => h) (fun r => r = u)) := by
      intro x1 x2
      have hb31 : ∀ (x0 : Nat) (x2 : Int32) (t0 : Int32) (t1 : Int32), J x 31 [(0, vR x.2.2.2 x0), (2, .int x2)] [.int t1, .int t0] h (mX12_answered_b31 x0 x2 t0 t1 h) (TL (S := (Int32 × Int32)) x 4 (fun s => [(0, vR x.2.2.2 x0), (1, .int s.1), (2, .int s.2)]) [] (fun s => h) (fun r => r = u)) := by
        intro x0 x2 t0 t1
        unfold mX12_answered_b31
        refine j_iadd (q := 32) hx (dc kX12_answered_0 21 rfl) rfl ?_
        refine j_istore_n (q := 33) (i := 1) (l2 := [(0, vR x.2.2.2 x0), (2, .int x2)]) hx (dc kX12_answered_0 22 rfl) rfl (hn 1 (by decide)) [0, 1] rfl ⟨⟨show (0 : Nat) ≠ 1 by decide, Or.inr (vR_cat _ _)⟩, ⟨⟨show (2 : Nat) ≠ 1 by decide, Or.inl (show (2 : Nat) + 1 ≠ 1 by decide)⟩, trivial⟩⟩ rfl ?_
        refine j_iinc (q := 36) (l2 := [(1, .int (t0 + t1)), (0, vR x.2.2.2 x0)]) hx (dc kX12_answered_0 23 rfl) 2 rfl (v := (1 : Int32)) (by decide) (hn 2 (by decide)) [0, 1] rfl ⟨⟨show (1 : Nat) ≠ 2 by decide, Or.inr rfl⟩, ⟨⟨show (0 : Nat) ≠ 2 by decide, Or.inl (show (0 : Nat) + 1 ≠ 2 by decide)⟩, trivial⟩⟩ rfl ?_
        refine j_goto (q := 4) hx (dc kX12_answered_0 24 rfl) (by decide) ?_
        exact j_back [2, 1, 0] ((t0 + t1), (x2 + (1 : Int32))) rfl rfl
      unfold mX12_answered_l4f
      refine j_iload_n (q := 5) hx (dc kX12_answered_0 4 rfl) rfl 2 rfl rfl ?_
      refine j_aload_n (q := 6) hx (dc kX12_answered_0 5 rfl) rfl 0 rfl rfl ?_
      refine w_gR (q := 9) hx (dc kX12_answered_0 6 rfl) ff_X12_0 lk_X12_7 rfl (fun v1 => ?_)
      refine j_iconst (q := 10) (v := (1 : Int32)) hx (dc kX12_answered_0 7 rfl) (by decide) rfl ?_
      refine j_ldI (q := 11) hx (dc kX12_answered_0 8 rfl) rfl (fun v2 => ?_)
      refine j_icmp_geS (q := 14) (tgt := 39) hx (dc kX12_answered_0 9 rfl) (by decide) rfl ?_ ?_
      · refine j_exit ?_
        refine j_iload_n (q := 40) hx (dc kX12_answered_0 25 rfl) rfl 1 rfl rfl ?_
        exact r_iR hx hR (dc kX12_answered_0 26 rfl)
      · refine j_iload_n (q := 15) hx (dc kX12_answered_0 10 rfl) rfl 1 rfl rfl ?_
        refine j_aload_n (q := 16) hx (dc kX12_answered_0 11 rfl) rfl 0 rfl rfl ?_
        refine w_gR (q := 19) hx (dc kX12_answered_0 12 rfl) ff_X12_4 lk_X12_23 rfl (fun v3 => ?_)
        refine j_iconst (q := 20) (v := (0 : Int32)) hx (dc kX12_answered_0 13 rfl) (by decide) rfl ?_
        refine j_iload_n (q := 21) hx (dc kX12_answered_0 14 rfl) rfl 2 rfl rfl ?_
        refine j_iadd (q := 22) hx (dc kX12_answered_0 15 rfl) rfl ?_
        refine j_ldI (q := 23) hx (dc kX12_answered_0 16 rfl) rfl (fun v4 => ?_)
        refine j_if_eq (q := 26) (tgt := 30) hx (dc kX12_answered_0 17 rfl) (by decide) Iff.rfl rfl ?_ ?_
        · refine j_iconst (q := 31) (v := (0 : Int32)) hx (dc kX12_answered_0 20 rfl) (by decide) rfl ?_
          exact j_sub [0, 2] rfl (hb31 x0 x2 x1 (0 : Int32))
        · refine j_iconst (q := 27) (v := (1 : Int32)) hx (dc kX12_answered_0 18 rfl) (by decide) rfl ?_
          refine j_goto (q := 31) hx (dc kX12_answered_0 19 rfl) (by decide) ?_
          exact j_sub [0, 2] rfl (hb31 x0 x2 x1 (1 : Int32))
    exact j_loop (S := (Int32 × Int32)) (lvf := fun s => [(0, vR x.2.2.2 x0), (1, .int s.1), (2, .int s.2)]) (hpf := fun s => h) (f := (fun s : (Int32 × Int32) => mX12_answered_l4f x0 h s.1 s.2)) (fun s => hB s.1 s.2) (x1, x2)
  unfold mX12_answered
  refine J.ckd fun hck => ?_
  refine j_iconst (q := 1) (v := (0 : Int32)) hx (dc kX12_answered_0 0 rfl) (by decide) rfl ?_
  refine j_istore_n (q := 2) (i := 1) (l2 := [(0, vR x.2.2.2 x0)]) hx (dc kX12_answered_0 1 rfl) rfl (hn 1 (by decide)) [0] rfl ⟨⟨show (0 : Nat) ≠ 1 by decide, Or.inr (vR_cat _ _)⟩, trivial⟩ rfl ?_
  refine j_iconst (q := 3) (v := (0 : Int32)) hx (dc kX12_answered_0 2 rfl) (by decide) rfl ?_
  refine j_istore_n (q := 4) (i := 2) (l2 := [(1, .int (0 : Int32)), (0, vR x.2.2.2 x0)]) hx (dc kX12_answered_0 3 rfl) rfl (hn 2 (by decide)) [0, 1] rfl ⟨⟨show (1 : Nat) ≠ 2 by decide, Or.inr rfl⟩, ⟨⟨show (0 : Nat) ≠ 2 by decide, Or.inl (show (0 : Nat) + 1 ≠ 2 by decide)⟩, trivial⟩⟩ rfl ?_
  exact j_sub [2, 1, 0] rfl (hb4 x0 (0 : Int32) (0 : Int32))

set_option maxHeartbeats 4000000 in
set_option maxRecDepth 100000 in
theorem sX12_isSomeBy (l : Launch) (w : Wd) (x0 : Nat) (x1 : Int32) (x2 : Int32) (h : Hp) (u : Int32) (hK : mX12_isSomeBy x0 x1 x2 h = some u) : M1 l w mi_X12_isSomeBy 3 [vR w x0, .int x1, .int x2] h h (some (.int u)) := by
  refine M1.of (own := RX12) (T := fun _ r => r = u) hK (by decide +kernel) rfl (by first | (simp only [lg_lenR, lg_lenI, lg_lenL, lg_len0]; decide) | decide) (fun x hx hnl hhf hl hw hret hnm hQ h0e => ⟨?_, rfl⟩)
  subst hw
  subst hl
  have hR : Rt x h h (some (.int u)) ((some .boolean)) := ⟨h0e, hhf, hret, hQ⟩
  have hn : ∀ i, i < 4 → i < x.2.2.1.1.1 := fun i hi => by rw [hnl]; exact hi
  have e0 : lv_args 0 [vR x.2.2.2 x0, .int x1, .int x2] = [(0, vR x.2.2.2 x0), (1, .int x1), (2, .int x2)] := by simp only [lv_argsR, lv_argsI, lv_argsL, lv_args0]
  rw [e0]
  have hb2 : ∀ (x0 : Nat) (x1 : Int32) (x2 : Int32) (x3 : Int32), J x 2 [(0, vR x.2.2.2 x0), (1, .int x1), (2, .int x2), (3, .int x3)] [] h (mX12_isSomeBy_l2 x0 x1 x2 x3 h) (fun r => r = u) := by
    intro x0 x1 x2 x3
    have hB : ∀ (x3 : Int32), J x 2 [(0, vR x.2.2.2 x0), (1, .int x1), (2, .int x2), (3, .int x3)] [] h (mX12_isSomeBy_l2f x0 x1 x2 h x3) (TL (S := Int32) x 2 (fun s => [(0, vR x.2.2.2 x0), (1, .int x1), (2, .int x2), (3, .int s)]) [] (fun s => h) (fun r => r = u)) := by
      intro x3
      have hb28 : ∀ (x0 : Nat) (x1 : Int32) (x2 : Int32) (x3 : Int32), J x 28 [(0, vR x.2.2.2 x0), (1, .int x1), (2, .int x2), (3, .int x3)] [] h (mX12_isSomeBy_b28 x0 x1 x2 x3 h) (TL (S := Int32) x 2 (fun s => [(0, vR x.2.2.2 x0), (1, .int x1), (2, .int x2), (3, .int s)]) [] (fun s => h) (fun r => r = u)) := by
        intro x0 x1 x2 x3
        unfold mX12_isSomeBy_b28
        refine j_iinc (q := 31) (l2 := [(0, vR x.2.2.2 x0), (1, .int x1), (2, .int x2)]) hx (dc kX12_isSomeBy_0 18 rfl) 3 rfl (v := (1 : Int32)) (by decide) (hn 3 (by decide)) [0, 1, 2] rfl ⟨⟨show (0 : Nat) ≠ 3 by decide, Or.inl (show (0 : Nat) + 1 ≠ 3 by decide)⟩, ⟨⟨show (1 : Nat) ≠ 3 by decide, Or.inl (show (1 : Nat) + 1 ≠ 3 by decide)⟩, ⟨⟨show (2 : Nat) ≠ 3 by decide, Or.inr rfl⟩, trivial⟩⟩⟩ rfl ?_
        refine j_goto (q := 2) hx (dc kX12_isSomeBy_0 19 rfl) (by decide) ?_
        exact j_back [1, 2, 3, 0] (x3 + (1 : Int32)) rfl rfl
      unfold mX12_isSomeBy_l2f
      refine j_iload_n (q := 3) hx (dc kX12_isSomeBy_0 2 rfl) rfl 3 rfl rfl ?_
      refine j_sipush (q := 6) (v := (256 : Int32)) hx (dc kX12_isSomeBy_0 3 rfl) (by decide) rfl ?_
      refine j_icmp_geS (q := 9) (tgt := 34) hx (dc kX12_isSomeBy_0 4 rfl) (by decide) rfl ?_ ?_
      · refine j_exit ?_
        refine j_iconst (q := 35) (v := (0 : Int32)) hx (dc kX12_isSomeBy_0 20 rfl) (by decide) rfl ?_
        exact r_cR hx (Or.inl rfl) hR (dc kX12_isSomeBy_0 21 rfl)
      · refine j_aload_n (q := 10) hx (dc kX12_isSomeBy_0 5 rfl) rfl 0 rfl rfl ?_
        refine j_iload_n (q := 11) hx (dc kX12_isSomeBy_0 6 rfl) rfl 3 rfl rfl ?_
        refine w_cVIR (q := 14) (As := [.int x3]) (st := []) hx (dc kX12_isSomeBy_0 7 rfl) cf12 (by decide) rfl (cI _ my_X12_isLeft lm_X12_398 (by decide)) vs_X12_isLeft rfl (fun u hu => sX12_isLeft _ _ _ _ _ _ hu) (fun e => ite_ne (by unfold mX12_isLeft at e; exact e)) (Nat.zero_le _) rfl (fun v1 => ?_)
        refine j_if_eq (q := 17) (tgt := 28) hx (dc kX12_isSomeBy_0 8 rfl) (by decide) Iff.rfl rfl ?_ ?_
        · exact hb28 x0 x1 x2 x3
        · refine j_iload_n (q := 18) hx (dc kX12_isSomeBy_0 9 rfl) rfl 3 rfl rfl ?_
          refine j_iload_n (q := 19) hx (dc kX12_isSomeBy_0 10 rfl) rfl 1 rfl rfl ?_
          refine j_ishr (q := 20) hx (dc kX12_isSomeBy_0 11 rfl) rfl ?_
          refine j_iconst (q := 21) (v := (1 : Int32)) hx (dc kX12_isSomeBy_0 12 rfl) (by decide) rfl ?_
          refine j_iand (q := 22) hx (dc kX12_isSomeBy_0 13 rfl) rfl ?_
          refine j_iload_n (q := 23) hx (dc kX12_isSomeBy_0 14 rfl) rfl 2 rfl rfl ?_
          refine j_icmp_neS (q := 26) (tgt := 28) hx (dc kX12_isSomeBy_0 15 rfl) (by decide) rfl ?_ ?_
          · exact hb28 x0 x1 x2 x3
          · refine j_exit ?_
            refine j_iconst (q := 27) (v := (1 : Int32)) hx (dc kX12_isSomeBy_0 16 rfl) (by decide) rfl ?_
            exact r_cR hx (Or.inr rfl) hR (dc kX12_isSomeBy_0 17 rfl)
    exact j_loop (S := Int32) (lvf := fun s => [(0, vR x.2.2.2 x0), (1, .int x1), (2, .int x2), (3, .int s)]) (hpf := fun s => h) (f := (fun s : Int32 => mX12_isSomeBy_l2f x0 x1 x2 h s)) (fun s => hB s) x3
  unfold mX12_isSomeBy
  refine J.ckd fun hck => ?_
  refine j_iconst (q := 1) (v := (0 : Int32)) hx (dc kX12_isSomeBy_0 0 rfl) (by decide) rfl ?_
  refine j_istore_n (q := 2) (i := 3) (l2 := [(0, vR x.2.2.2 x0), (1, .int x1), (2, .int x2)]) hx (dc kX12_isSomeBy_0 1 rfl) rfl (hn 3 (by decide)) [0, 1, 2] rfl ⟨⟨show (0 : Nat) ≠ 3 by decide, Or.inl (show (0 : Nat) + 1 ≠ 3 by decide)⟩, ⟨⟨show (1 : Nat) ≠ 3 by decide, Or.inl (show (1 : Nat) + 1 ≠ 3 by decide)⟩, ⟨⟨show (2 : Nat) ≠ 3 by decide, Or.inr rfl⟩, trivial⟩⟩⟩ rfl ?_
  exact j_sub [1, 2, 3, 0] rfl (hb2 x0 x1 x2 (0 : Int32))

set_option maxHeartbeats 4000000 in
set_option maxRecDepth 100000 in
theorem sX12_makes (l : Launch) (w : Wd) (x0 : Nat) (x1 : Int32) (x2 : Int32) (x3 : Int32) (h : Hp) (u : Hp) (hK : mX12_makes x0 x1 x2 x3 h = some u) : M1 l w mi_X12_makes 4 [vR w x0, .int x1, .int x2, .int x3] h u (none) := by
  refine M1.of (own := RX12) (T := fun _ r => r = u) hK (by decide +kernel) rfl (by first | (simp only [lg_lenR, lg_lenI, lg_lenL, lg_len0]; decide) | decide) (fun x hx hnl hhf hl hw hret hnm hQ h0e => ⟨?_, rfl⟩)
  subst hw
  subst hl
  have hR : Rt x h u (none) (none) := ⟨h0e, hhf, hret, hQ⟩
  have hn : ∀ i, i < 4 → i < x.2.2.1.1.1 := fun i hi => by rw [hnl]; exact hi
  have e0 : lv_args 0 [vR x.2.2.2 x0, .int x1, .int x2, .int x3] = [(0, vR x.2.2.2 x0), (1, .int x1), (2, .int x2), (3, .int x3)] := by simp only [lv_argsR, lv_argsI, lv_argsL, lv_args0]
  rw [e0]
  unfold mX12_makes
  refine J.ckd fun hck => ?_
  refine j_aload_n (q := 1) hx (dc kX12_makes_0 0 rfl) rfl 0 rfl rfl ?_
  refine w_gR (q := 4) hx (dc kX12_makes_0 1 rfl) ff_X12_4 lk_X12_23 rfl (fun v1 => ?_)
  refine j_iconst (q := 5) (v := (0 : Int32)) hx (dc kX12_makes_0 2 rfl) (by decide) rfl ?_
  refine j_iload_n (q := 6) hx (dc kX12_makes_0 3 rfl) rfl 1 rfl rfl ?_
  refine j_iadd (q := 7) hx (dc kX12_makes_0 4 rfl) rfl ?_
  refine j_iload_n (q := 8) hx (dc kX12_makes_0 5 rfl) rfl 2 rfl rfl ?_
  refine w_stI (q := 9) hx (dc kX12_makes_0 6 rfl) rfl (fun h2 => ?_)
  refine j_aload_n (q := 10) hx (dc kX12_makes_0 7 rfl) rfl 0 rfl rfl ?_
  refine w_gR (q := 13) hx (dc kX12_makes_0 8 rfl) ff_X12_4 lk_X12_23 rfl (fun v3 => ?_)
  refine j_bipush (q := 15) (v := (8 : Int32)) hx (dc kX12_makes_0 9 rfl) (by decide) rfl ?_
  refine j_iload_n (q := 16) hx (dc kX12_makes_0 10 rfl) rfl 1 rfl rfl ?_
  refine j_iadd (q := 17) hx (dc kX12_makes_0 11 rfl) rfl ?_
  refine j_iload_n (q := 18) hx (dc kX12_makes_0 12 rfl) rfl 3 rfl rfl ?_
  refine w_stI (q := 19) hx (dc kX12_makes_0 13 rfl) rfl (fun h4 => ?_)
  refine j_aload_n (q := 20) hx (dc kX12_makes_0 14 rfl) rfl 0 rfl rfl ?_
  refine w_cVVW (q := 23) (As := []) (st := []) hx (dc kX12_makes_0 15 rfl) cf12 (by decide) rfl (cI _ my_X12_laysKnown lm_X12_308 (by decide)) vs_X12_laysKnown rfl (fun u hu => sX12_laysKnown _ _ _ _ _ hu) (fun e => ite_ne (by unfold mX12_laysKnown at e; exact e)) (Nat.zero_le _) rfl (fun h6 => ?_)
  exact r_vW hx hR (dc kX12_makes_0 16 rfl)

set_option maxHeartbeats 4000000 in
set_option maxRecDepth 100000 in
theorem sX12_answer (l : Launch) (w : Wd) (x0 : Nat) (x1 : Int32) (x2 : Int32) (h : Hp) (u : (Int32 × Hp)) (hK : mX12_answer x0 x1 x2 h = some u) : M1 l w mi_X12_answer 5 [vR w x0, .int x1, .int x2] h u.2 (some (.int u.1)) := by
  refine M1.of (own := RX12) (T := fun _ r => r = u) hK (by decide +kernel) rfl (by first | (simp only [lg_lenR, lg_lenI, lg_lenL, lg_len0]; decide) | decide) (fun x hx hnl hhf hl hw hret hnm hQ h0e => ⟨?_, rfl⟩)
  subst hw
  subst hl
  have hR : Rt x h u.2 (some (.int u.1)) ((some .int)) := ⟨h0e, hhf, hret, hQ⟩
  have hn : ∀ i, i < 3 → i < x.2.2.1.1.1 := fun i hi => by rw [hnl]; exact hi
  have e0 : lv_args 0 [vR x.2.2.2 x0, .int x1, .int x2] = [(0, vR x.2.2.2 x0), (1, .int x1), (2, .int x2)] := by simp only [lv_argsR, lv_argsI, lv_argsL, lv_args0]
  rw [e0]
  have hb104 : ∀ (x0 : Nat) (t0 : Nat) (t1 : Int32) (t2 : Int32) (t3 : Int32) (h : Hp), J x 104 [(0, vR x.2.2.2 x0)] [.int t3, .int t2, .int t1, vR x.2.2.2 t0] h (mX12_answer_b104 x0 t0 t1 t2 t3 h) (fun r => r = u) := by
    intro x0 t0 t1 t2 t3 h
    unfold mX12_answer_b104
    refine w_cVVW (q := 107) (As := [.int t1, .int t2, .int t3]) (st := []) hx (dc kX12_answer_0 62 rfl) cf12 (by decide) rfl (cI _ my_X12_makes lm_X12_407 (by decide)) vs_X12_makes rfl (fun u hu => sX12_makes _ _ _ _ _ _ _ _ hu) (fun e => ite_ne (by unfold mX12_makes at e; exact e)) (Nat.zero_le _) rfl (fun h12 => ?_)
    refine j_aload_n (q := 108) hx (dc kX12_answer_0 63 rfl) rfl 0 rfl rfl ?_
    refine w_cVIR (q := 111) (As := []) (st := []) hx (dc kX12_answer_1 0 rfl) cf12 (by decide) rfl (cI _ my_X12_answered lm_X12_410 (by decide)) vs_X12_answered rfl (fun u hu => sX12_answered _ _ _ _ _ hu) (fun e => ite_ne (by unfold mX12_answered at e; exact e)) (Nat.zero_le _) rfl (fun v13 => ?_)
    exact r_iW hx hR (dc kX12_answer_1 1 rfl)
  have hb94 : ∀ (x0 : Nat) (x2 : Int32) (t0 : Nat) (t1 : Int32) (t2 : Int32) (h : Hp), J x 94 [(0, vR x.2.2.2 x0), (2, .int x2)] [.int t2, .int t1, vR x.2.2.2 t0] h (mX12_answer_b94 x0 x2 t0 t1 t2 h) (fun r => r = u) := by
    intro x0 x2 t0 t1 t2 h
    unfold mX12_answer_b94
    refine j_iload_n (q := 95) hx (dc kX12_answer_0 56 rfl) rfl 1 rfl rfl ?_
    refine j_iconst (q := 96) (v := (1 : Int32)) hx (dc kX12_answer_0 57 rfl) (by decide) rfl ?_
    refine j_icmp_neS (q := 99) (tgt := 103) hx (dc kX12_answer_0 58 rfl) (by decide) rfl ?_ ?_
    · refine j_iconst (q := 104) (v := (0 : Int32)) hx (dc kX12_answer_0 61 rfl) (by decide) rfl ?_
      exact j_sub [0] rfl (hb104 x0 t0 t1 t2 (0 : Int32) h)
    · refine j_iconst (q := 100) (v := (1 : Int32)) hx (dc kX12_answer_0 59 rfl) (by decide) rfl ?_
      refine j_goto (q := 104) hx (dc kX12_answer_0 60 rfl) (by decide) ?_
      exact j_sub [0] rfl (hb104 x0 t0 t1 t2 (1 : Int32) h)
  have hb78 : ∀ (x0 : Nat) (x1 : Int32) (x2 : Int32) (h : Hp), J x 78 [(0, vR x.2.2.2 x0), (1, .int x1), (2, .int x2)] [] h (mX12_answer_b78 x0 x1 x2 h) (fun r => r = u) := by
    intro x0 x1 x2 h
    unfold mX12_answer_b78
    refine j_aload_n (q := 79) hx (dc kX12_answer_0 46 rfl) rfl 0 rfl rfl ?_
    refine w_cVVW (q := 82) (As := []) (st := []) hx (dc kX12_answer_0 47 rfl) cf12 (by decide) rfl (cI _ my_X12_keepsAct lm_X12_404 (by decide)) vs_X12_keepsAct rfl (fun u hu => sX12_keepsAct _ _ _ _ _ hu) (fun e => ite_ne (by unfold mX12_keepsAct at e; exact e)) (Nat.zero_le _) rfl (fun h10 => ?_)
    refine j_aload_n (q := 83) hx (dc kX12_answer_0 48 rfl) rfl 0 rfl rfl ?_
    refine j_iload_n (q := 84) hx (dc kX12_answer_0 49 rfl) rfl 1 rfl rfl ?_
    refine j_iload_n (q := 85) hx (dc kX12_answer_0 50 rfl) rfl 2 rfl rfl ?_
    refine j_iconst (q := 86) (v := (2 : Int32)) hx (dc kX12_answer_0 51 rfl) (by decide) rfl ?_
    refine j_icmp_geS (q := 89) (tgt := 93) hx (dc kX12_answer_0 52 rfl) (by decide) rfl ?_ ?_
    · refine j_iload_n (q := 94) hx (dc kX12_answer_0 55 rfl) rfl 2 rfl rfl ?_
      exact j_sub [0, 2] rfl (hb94 x0 x2 x0 x1 x2 h10)
    · refine j_iconst (q := 90) (v := (1 : Int32)) hx (dc kX12_answer_0 53 rfl) (by decide) rfl ?_
      refine j_goto (q := 94) hx (dc kX12_answer_0 54 rfl) (by decide) ?_
      exact j_sub [0, 2] rfl (hb94 x0 x2 x0 x1 (1 : Int32) h10)
  have hb61 : ∀ (x0 : Nat) (x1 : Int32) (x2 : Int32) (h : Hp), J x 61 [(0, vR x.2.2.2 x0), (1, .int x1), (2, .int x2)] [] h (mX12_answer_b61 x0 x1 x2 h) (fun r => r = u) := by
    intro x0 x1 x2 h
    unfold mX12_answer_b61
    refine j_iload_n (q := 62) hx (dc kX12_answer_0 36 rfl) rfl 2 rfl rfl ?_
    refine j_iconst (q := 63) (v := (2 : Int32)) hx (dc kX12_answer_0 37 rfl) (by decide) rfl ?_
    refine j_icmp_geS (q := 66) (tgt := 78) hx (dc kX12_answer_0 38 rfl) (by decide) rfl ?_ ?_
    · exact hb78 x0 x1 x2 h
    · refine j_aload_n (q := 67) hx (dc kX12_answer_0 39 rfl) rfl 0 rfl rfl ?_
      refine j_iload_n (q := 68) hx (dc kX12_answer_0 40 rfl) rfl 1 rfl rfl ?_
      refine j_iload_n (q := 69) hx (dc kX12_answer_0 41 rfl) rfl 2 rfl rfl ?_
      refine w_cVIR (q := 72) (As := [.int x1, .int x2]) (st := []) hx (dc kX12_answer_0 42 rfl) cf12 (by decide) rfl (cI _ my_X12_isSomeBy lm_X12_401 (by decide)) vs_X12_isSomeBy rfl (fun u hu => sX12_isSomeBy _ _ _ _ _ _ _ hu) (fun e => ite_ne (by unfold mX12_isSomeBy at e; exact e)) (Nat.zero_le _) rfl (fun v15 => ?_)
      refine j_if_neS (q := 75) (tgt := 78) hx (dc kX12_answer_0 43 rfl) (by decide) rfl ?_ ?_
      · exact hb78 x0 x1 x2 h
      · refine j_bipush (q := 77) (v := (-4 : Int32)) hx (dc kX12_answer_0 44 rfl) (by decide) rfl ?_
        exact r_iW hx hR (dc kX12_answer_0 45 rfl)
  unfold mX12_answer
  refine J.ckd fun hck => ?_
  refine j_aload_n (q := 1) hx (dc kX12_answer_0 0 rfl) rfl 0 rfl rfl ?_
  refine j_iload_n (q := 2) hx (dc kX12_answer_0 1 rfl) rfl 1 rfl rfl ?_
  refine w_cVIR (q := 5) (As := [.int x1]) (st := []) hx (dc kX12_answer_0 2 rfl) cf12 (by decide) rfl (cI _ my_X12_isFact lm_X12_374 (by decide)) vs_X12_isFact rfl (fun u hu => sX12_isFact _ _ _ _ _ _ hu) (fun e => ite_ne (by unfold mX12_isFact at e; exact e)) (Nat.zero_le _) rfl (fun v1 => ?_)
  refine j_if_eq (q := 8) (tgt := 17) hx (dc kX12_answer_0 3 rfl) (by decide) Iff.rfl rfl ?_ ?_
  · refine j_iconst (q := 18) (v := (-1 : Int32)) hx (dc kX12_answer_0 9 rfl) (by decide) rfl ?_
    exact r_iW hx hR (dc kX12_answer_0 10 rfl)
  · refine j_iload_n (q := 9) hx (dc kX12_answer_0 4 rfl) rfl 2 rfl rfl ?_
    refine j_iconst (q := 10) (v := (0 : Int32)) hx (dc kX12_answer_0 5 rfl) (by decide) rfl ?_
    refine j_iconst (q := 11) (v := (3 : Int32)) hx (dc kX12_answer_0 6 rfl) (by decide) rfl ?_
    refine w_cSIR (q := 14) (As := [.int x2, .int (0 : Int32), .int (3 : Int32)]) (st := []) hx (dc kX12_answer_0 7 rfl) (cI _ my_X12_in lm_X12_85 (by decide)) st_X12_in rfl (fun u hu => sX12_in _ _ _ _ _ _ _ hu) (Nat.zero_le _) rfl (fun v3 => ?_)
    refine j_if_neS (q := 17) (tgt := 19) hx (dc kX12_answer_0 8 rfl) (by decide) rfl ?_ ?_
    · refine j_aload_n (q := 20) hx (dc kX12_answer_0 11 rfl) rfl 0 rfl rfl ?_
      refine w_gR (q := 23) hx (dc kX12_answer_0 12 rfl) ff_X12_4 lk_X12_23 rfl (fun v5 => ?_)
      refine j_bipush (q := 25) (v := (16 : Int32)) hx (dc kX12_answer_0 13 rfl) (by decide) rfl ?_
      refine j_ldI (q := 26) hx (dc kX12_answer_0 14 rfl) rfl (fun v6 => ?_)
      refine j_iconst (q := 27) (v := (1 : Int32)) hx (dc kX12_answer_0 15 rfl) (by decide) rfl ?_
      refine j_icmp_neS (q := 30) (tgt := 33) hx (dc kX12_answer_0 16 rfl) (by decide) rfl ?_ ?_
      · refine j_aload_n (q := 34) hx (dc kX12_answer_0 19 rfl) rfl 0 rfl rfl ?_
        refine j_iload_n (q := 35) hx (dc kX12_answer_0 20 rfl) rfl 1 rfl rfl ?_
        refine w_cVIR (q := 38) (As := [.int x1]) (st := []) hx (dc kX12_answer_0 21 rfl) cf12 (by decide) rfl (cI _ my_X12_isKnown lm_X12_326 (by decide)) vs_X12_isKnown rfl (fun u hu => sX12_isKnown _ _ _ _ _ _ hu) (fun e => ite_ne (by unfold mX12_isKnown at e; exact e)) (Nat.zero_le _) rfl (fun v7 => ?_)
        refine j_if_neS (q := 41) (tgt := 58) hx (dc kX12_answer_0 22 rfl) (by decide) rfl ?_ ?_
        · refine j_bipush (q := 60) (v := (-3 : Int32)) hx (dc kX12_answer_0 34 rfl) (by decide) rfl ?_
          exact r_iW hx hR (dc kX12_answer_0 35 rfl)
        · refine j_iload_n (q := 42) hx (dc kX12_answer_0 23 rfl) rfl 2 rfl rfl ?_
          refine j_iconst (q := 43) (v := (1 : Int32)) hx (dc kX12_answer_0 24 rfl) (by decide) rfl ?_
          refine j_icmp_leS (q := 46) (tgt := 61) hx (dc kX12_answer_0 25 rfl) (by decide) rfl ?_ ?_
          · exact hb61 x0 x1 x2 h
          · refine j_aload_n (q := 47) hx (dc kX12_answer_0 26 rfl) rfl 0 rfl rfl ?_
            refine w_gR (q := 50) hx (dc kX12_answer_0 27 rfl) ff_X12_4 lk_X12_23 rfl (fun v17 => ?_)
            refine j_iconst (q := 51) (v := (0 : Int32)) hx (dc kX12_answer_0 28 rfl) (by decide) rfl ?_
            refine j_iload_n (q := 52) hx (dc kX12_answer_0 29 rfl) rfl 1 rfl rfl ?_
            refine j_iadd (q := 53) hx (dc kX12_answer_0 30 rfl) rfl ?_
            refine j_ldI (q := 54) hx (dc kX12_answer_0 31 rfl) rfl (fun v18 => ?_)
            refine j_iload_n (q := 55) hx (dc kX12_answer_0 32 rfl) rfl 2 rfl rfl ?_
            refine j_icmp_neS (q := 58) (tgt := 61) hx (dc kX12_answer_0 33 rfl) (by decide) rfl ?_ ?_
            · exact hb61 x0 x1 x2 h
            · refine j_bipush (q := 60) (v := (-3 : Int32)) hx (dc kX12_answer_0 34 rfl) (by decide) rfl ?_
              exact r_iW hx hR (dc kX12_answer_0 35 rfl)
      · refine j_bipush (q := 32) (v := (-2 : Int32)) hx (dc kX12_answer_0 17 rfl) (by decide) rfl ?_
        exact r_iW hx hR (dc kX12_answer_0 18 rfl)
    · refine j_iconst (q := 18) (v := (-1 : Int32)) hx (dc kX12_answer_0 9 rfl) (by decide) rfl ?_
      exact r_iW hx hR (dc kX12_answer_0 10 rfl)

set_option maxHeartbeats 4000000 in
set_option maxRecDepth 100000 in
theorem sX12_withdraw (l : Launch) (w : Wd) (x0 : Nat) (x1 : Int32) (h : Hp) (u : (Int32 × Hp)) (hK : mX12_withdraw x0 x1 h = some u) : M1 l w mi_X12_withdraw 5 [vR w x0, .int x1] h u.2 (some (.int u.1)) := by
  refine M1.of (own := RX12) (T := fun _ r => r = u) hK (by decide +kernel) rfl (by first | (simp only [lg_lenR, lg_lenI, lg_lenL, lg_len0]; decide) | decide) (fun x hx hnl hhf hl hw hret hnm hQ h0e => ⟨?_, rfl⟩)
  subst hw
  subst hl
  have hR : Rt x h u.2 (some (.int u.1)) ((some .int)) := ⟨h0e, hhf, hret, hQ⟩
  have hn : ∀ i, i < 2 → i < x.2.2.1.1.1 := fun i hi => by rw [hnl]; exact hi
  have e0 : lv_args 0 [vR x.2.2.2 x0, .int x1] = [(0, vR x.2.2.2 x0), (1, .int x1)] := by simp only [lv_argsR, lv_argsI, lv_argsL, lv_args0]
  rw [e0]
  unfold mX12_withdraw
  refine J.ckd fun hck => ?_
  refine j_aload_n (q := 1) hx (dc kX12_withdraw_0 0 rfl) rfl 0 rfl rfl ?_
  refine j_iload_n (q := 2) hx (dc kX12_withdraw_0 1 rfl) rfl 1 rfl rfl ?_
  refine w_cVIR (q := 5) (As := [.int x1]) (st := []) hx (dc kX12_withdraw_0 2 rfl) cf12 (by decide) rfl (cI _ my_X12_isFact lm_X12_374 (by decide)) vs_X12_isFact rfl (fun u hu => sX12_isFact _ _ _ _ _ _ hu) (fun e => ite_ne (by unfold mX12_isFact at e; exact e)) (Nat.zero_le _) rfl (fun v1 => ?_)
  refine j_if_neS (q := 8) (tgt := 10) hx (dc kX12_withdraw_0 3 rfl) (by decide) rfl ?_ ?_
  · refine j_aload_n (q := 11) hx (dc kX12_withdraw_0 6 rfl) rfl 0 rfl rfl ?_
    refine w_gR (q := 14) hx (dc kX12_withdraw_0 7 rfl) ff_X12_4 lk_X12_23 rfl (fun v3 => ?_)
    refine j_bipush (q := 16) (v := (16 : Int32)) hx (dc kX12_withdraw_0 8 rfl) (by decide) rfl ?_
    refine j_ldI (q := 17) hx (dc kX12_withdraw_0 9 rfl) rfl (fun v4 => ?_)
    refine j_iconst (q := 18) (v := (1 : Int32)) hx (dc kX12_withdraw_0 10 rfl) (by decide) rfl ?_
    refine j_icmp_neS (q := 21) (tgt := 24) hx (dc kX12_withdraw_0 11 rfl) (by decide) rfl ?_ ?_
    · refine j_aload_n (q := 25) hx (dc kX12_withdraw_0 14 rfl) rfl 0 rfl rfl ?_
      refine w_gR (q := 28) hx (dc kX12_withdraw_0 15 rfl) ff_X12_4 lk_X12_23 rfl (fun v5 => ?_)
      refine j_iconst (q := 29) (v := (0 : Int32)) hx (dc kX12_withdraw_0 16 rfl) (by decide) rfl ?_
      refine j_iload_n (q := 30) hx (dc kX12_withdraw_0 17 rfl) rfl 1 rfl rfl ?_
      refine j_iadd (q := 31) hx (dc kX12_withdraw_0 18 rfl) rfl ?_
      refine j_ldI (q := 32) hx (dc kX12_withdraw_0 19 rfl) rfl (fun v6 => ?_)
      refine j_iconst (q := 33) (v := (1 : Int32)) hx (dc kX12_withdraw_0 20 rfl) (by decide) rfl ?_
      refine j_icmp_eq (q := 36) (tgt := 39) hx (dc kX12_withdraw_0 21 rfl) (by decide) Iff.rfl rfl ?_ ?_
      · refine j_aload_n (q := 40) hx (dc kX12_withdraw_0 24 rfl) rfl 0 rfl rfl ?_
        refine w_cVVW (q := 43) (As := []) (st := []) hx (dc kX12_withdraw_0 25 rfl) cf12 (by decide) rfl (cI _ my_X12_keepsAct lm_X12_404 (by decide)) vs_X12_keepsAct rfl (fun u hu => sX12_keepsAct _ _ _ _ _ hu) (fun e => ite_ne (by unfold mX12_keepsAct at e; exact e)) (Nat.zero_le _) rfl (fun h8 => ?_)
        refine j_aload_n (q := 44) hx (dc kX12_withdraw_0 26 rfl) rfl 0 rfl rfl ?_
        refine j_iload_n (q := 45) hx (dc kX12_withdraw_0 27 rfl) rfl 1 rfl rfl ?_
        refine j_iconst (q := 46) (v := (0 : Int32)) hx (dc kX12_withdraw_0 28 rfl) (by decide) rfl ?_
        refine j_iconst (q := 47) (v := (0 : Int32)) hx (dc kX12_withdraw_0 29 rfl) (by decide) rfl ?_
        refine w_cVVW (q := 50) (As := [.int x1, .int (0 : Int32), .int (0 : Int32)]) (st := []) hx (dc kX12_withdraw_0 30 rfl) cf12 (by decide) rfl (cI _ my_X12_makes lm_X12_407 (by decide)) vs_X12_makes rfl (fun u hu => sX12_makes _ _ _ _ _ _ _ _ hu) (fun e => ite_ne (by unfold mX12_makes at e; exact e)) (Nat.zero_le _) rfl (fun h10 => ?_)
        refine j_aload_n (q := 51) hx (dc kX12_withdraw_0 31 rfl) rfl 0 rfl rfl ?_
        refine w_cVIR (q := 54) (As := []) (st := []) hx (dc kX12_withdraw_0 32 rfl) cf12 (by decide) rfl (cI _ my_X12_answered lm_X12_410 (by decide)) vs_X12_answered rfl (fun u hu => sX12_answered _ _ _ _ _ hu) (fun e => ite_ne (by unfold mX12_answered at e; exact e)) (Nat.zero_le _) rfl (fun v11 => ?_)
        exact r_iW hx hR (dc kX12_withdraw_0 33 rfl)
      · refine j_bipush (q := 38) (v := (-3 : Int32)) hx (dc kX12_withdraw_0 22 rfl) (by decide) rfl ?_
        exact r_iW hx hR (dc kX12_withdraw_0 23 rfl)
    · refine j_bipush (q := 23) (v := (-2 : Int32)) hx (dc kX12_withdraw_0 12 rfl) (by decide) rfl ?_
      exact r_iW hx hR (dc kX12_withdraw_0 13 rfl)
  · refine j_iconst (q := 9) (v := (-1 : Int32)) hx (dc kX12_withdraw_0 4 rfl) (by decide) rfl ?_
    exact r_iW hx hR (dc kX12_withdraw_0 5 rfl)

set_option maxHeartbeats 4000000 in
set_option maxRecDepth 100000 in
theorem sX12_firstSayer (l : Launch) (w : Wd) (x0 : Nat) (x1 : Int32) (h : Hp) (u : Int32) (hK : mX12_firstSayer x0 x1 h = some u) : M1 l w mi_X12_firstSayer 2 [vR w x0, .int x1] h h (some (.int u)) := by
  refine M1.of (own := RX12) (T := fun _ r => r = u) hK (by decide +kernel) rfl (by first | (simp only [lg_lenR, lg_lenI, lg_lenL, lg_len0]; decide) | decide) (fun x hx hnl hhf hl hw hret hnm hQ h0e => ⟨?_, rfl⟩)
  subst hw
  subst hl
  have hR : Rt x h h (some (.int u)) ((some .int)) := ⟨h0e, hhf, hret, hQ⟩
  have hn : ∀ i, i < 3 → i < x.2.2.1.1.1 := fun i hi => by rw [hnl]; exact hi
  have e0 : lv_args 0 [vR x.2.2.2 x0, .int x1] = [(0, vR x.2.2.2 x0), (1, .int x1)] := by simp only [lv_argsR, lv_argsI, lv_argsL, lv_args0]
  rw [e0]
  have hb2 : ∀ (x0 : Nat) (x1 : Int32) (x2 : Int32), J x 2 [(0, vR x.2.2.2 x0), (1, .int x1), (2, .int x2)] [] h (mX12_firstSayer_l2 x0 x1 x2 h) (fun r => r = u) := by
    intro x0 x1 x2
    have hB : ∀ (x2 : Int32), J x 2 [(0, vR x.2.2.2 x0), (1, .int x1), (2, .int x2)] [] h (mX12_firstSayer_l2f x0 x1 h x2) (TL (S := Int32) x 2 (fun s => [(0, vR x.2.2.2 x0), (1, .int x1), (2, .int s)]) [] (fun s => h) (fun r => r = u)) := by
      intro x2
      have hb38 : ∀ (x0 : Nat) (x1 : Int32) (x2 : Int32), J x 38 [(0, vR x.2.2.2 x0), (1, .int x1), (2, .int x2)] [] h (mX12_firstSayer_b38 x0 x1 x2 h) (TL (S := Int32) x 2 (fun s => [(0, vR x.2.2.2 x0), (1, .int x1), (2, .int s)]) [] (fun s => h) (fun r => r = u)) := by
        intro x0 x1 x2
        unfold mX12_firstSayer_b38
        refine j_iinc (q := 41) (l2 := [(0, vR x.2.2.2 x0), (1, .int x1)]) hx (dc kX12_firstSayer_0 22 rfl) 2 rfl (v := (1 : Int32)) (by decide) (hn 2 (by decide)) [0, 1] rfl ⟨⟨show (0 : Nat) ≠ 2 by decide, Or.inl (show (0 : Nat) + 1 ≠ 2 by decide)⟩, ⟨⟨show (1 : Nat) ≠ 2 by decide, Or.inr rfl⟩, trivial⟩⟩ rfl ?_
        refine j_goto (q := 2) hx (dc kX12_firstSayer_0 23 rfl) (by decide) ?_
        exact j_back [1, 2, 0] (x2 + (1 : Int32)) rfl rfl
      unfold mX12_firstSayer_l2f
      refine j_iload_n (q := 3) hx (dc kX12_firstSayer_0 2 rfl) rfl 2 rfl rfl ?_
      refine j_aload_n (q := 4) hx (dc kX12_firstSayer_0 3 rfl) rfl 0 rfl rfl ?_
      refine w_gR (q := 7) hx (dc kX12_firstSayer_0 4 rfl) ff_X12_4 lk_X12_23 rfl (fun v1 => ?_)
      refine j_bipush (q := 9) (v := (18 : Int32)) hx (dc kX12_firstSayer_0 5 rfl) (by decide) rfl ?_
      refine j_ldI (q := 10) hx (dc kX12_firstSayer_0 6 rfl) rfl (fun v2 => ?_)
      refine j_icmp_geS (q := 13) (tgt := 44) hx (dc kX12_firstSayer_0 7 rfl) (by decide) rfl ?_ ?_
      · refine j_exit ?_
        refine j_iconst (q := 45) (v := (-1 : Int32)) hx (dc kX12_firstSayer_0 24 rfl) (by decide) rfl ?_
        exact r_iR hx hR (dc kX12_firstSayer_0 25 rfl)
      · refine j_aload_n (q := 14) hx (dc kX12_firstSayer_0 8 rfl) rfl 0 rfl rfl ?_
        refine j_iload_n (q := 15) hx (dc kX12_firstSayer_0 9 rfl) rfl 2 rfl rfl ?_
        refine j_bipush (q := 17) (v := (6 : Int32)) hx (dc kX12_firstSayer_0 10 rfl) (by decide) rfl ?_
        refine w_cVIR (q := 20) (As := [.int x2, .int (6 : Int32)]) (st := []) hx (dc kX12_firstSayer_0 11 rfl) cf12 (by decide) rfl (cI _ my_X12_its lm_X12_339 (by decide)) vs_X12_its rfl (fun u hu => sX12_its _ _ _ _ _ _ _ hu) (fun e => ite_ne (by unfold mX12_its at e; exact e)) (Nat.zero_le _) rfl (fun v3 => ?_)
        refine j_if_neS (q := 23) (tgt := 38) hx (dc kX12_firstSayer_0 12 rfl) (by decide) rfl ?_ ?_
        · exact hb38 x0 x1 x2
        · refine j_aload_n (q := 24) hx (dc kX12_firstSayer_0 13 rfl) rfl 0 rfl rfl ?_
          refine j_iload_n (q := 25) hx (dc kX12_firstSayer_0 14 rfl) rfl 2 rfl rfl ?_
          refine j_iconst (q := 26) (v := (4 : Int32)) hx (dc kX12_firstSayer_0 15 rfl) (by decide) rfl ?_
          refine w_cVIR (q := 29) (As := [.int x2, .int (4 : Int32)]) (st := []) hx (dc kX12_firstSayer_0 16 rfl) cf12 (by decide) rfl (cI _ my_X12_its lm_X12_339 (by decide)) vs_X12_its rfl (fun u hu => sX12_its _ _ _ _ _ _ _ hu) (fun e => ite_ne (by unfold mX12_its at e; exact e)) (Nat.zero_le _) rfl (fun v5 => ?_)
          refine j_iload_n (q := 30) hx (dc kX12_firstSayer_0 17 rfl) rfl 1 rfl rfl ?_
          refine w_cSIR (q := 33) (As := [.int v5, .int x1]) (st := []) hx (dc kX12_firstSayer_0 18 rfl) (cI _ my_X12_has lm_X12_239 (by decide)) st_X12_has rfl (fun u hu => sX12_has _ _ _ _ _ _ hu) (Nat.zero_le _) rfl (fun v7 => ?_)
          refine j_if_eq (q := 36) (tgt := 38) hx (dc kX12_firstSayer_0 19 rfl) (by decide) Iff.rfl rfl ?_ ?_
          · exact hb38 x0 x1 x2
          · refine j_exit ?_
            refine j_iload_n (q := 37) hx (dc kX12_firstSayer_0 20 rfl) rfl 2 rfl rfl ?_
            exact r_iR hx hR (dc kX12_firstSayer_0 21 rfl)
    exact j_loop (S := Int32) (lvf := fun s => [(0, vR x.2.2.2 x0), (1, .int x1), (2, .int s)]) (hpf := fun s => h) (f := (fun s : Int32 => mX12_firstSayer_l2f x0 x1 h s)) (fun s => hB s) x2
  unfold mX12_firstSayer
  refine J.ckd fun hck => ?_
  refine j_iconst (q := 1) (v := (0 : Int32)) hx (dc kX12_firstSayer_0 0 rfl) (by decide) rfl ?_
  refine j_istore_n (q := 2) (i := 2) (l2 := [(0, vR x.2.2.2 x0), (1, .int x1)]) hx (dc kX12_firstSayer_0 1 rfl) rfl (hn 2 (by decide)) [0, 1] rfl ⟨⟨show (0 : Nat) ≠ 2 by decide, Or.inl (show (0 : Nat) + 1 ≠ 2 by decide)⟩, ⟨⟨show (1 : Nat) ≠ 2 by decide, Or.inr rfl⟩, trivial⟩⟩ rfl ?_
  exact j_sub [1, 2, 0] rfl (hb2 x0 x1 (0 : Int32))

set_option maxHeartbeats 4000000 in
set_option maxRecDepth 100000 in
theorem sX12_close (l : Launch) (w : Wd) (x0 : Nat) (h : Hp) (u : (Int32 × Hp)) (hK : mX12_close x0 h = some u) : M1 l w mi_X12_close 5 [vR w x0] h u.2 (some (.int u.1)) := by
  refine M1.of (own := RX12) (T := fun _ r => r = u) hK (by decide +kernel) rfl (by first | (simp only [lg_lenR, lg_lenI, lg_lenL, lg_len0]; decide) | decide) (fun x hx hnl hhf hl hw hret hnm hQ h0e => ⟨?_, rfl⟩)
  subst hw
  subst hl
  have hR : Rt x h u.2 (some (.int u.1)) ((some .int)) := ⟨h0e, hhf, hret, hQ⟩
  have hn : ∀ i, i < 6 → i < x.2.2.1.1.1 := fun i hi => by rw [hnl]; exact hi
  have e0 : lv_args 0 [vR x.2.2.2 x0] = [(0, vR x.2.2.2 x0)] := by simp only [lv_argsR, lv_argsI, lv_argsL, lv_args0]
  rw [e0]
  have hb22 : ∀ (x0 : Nat) (x1 : Int32) (x2 : Int32) (h : Hp), J x 22 [(0, vR x.2.2.2 x0), (1, .int x1), (2, .int x2)] [] h (mX12_close_l22 x0 x1 x2 h) (fun r => r = u) := by
    intro x0 x1 x2 h
    have hB : ∀ (x1 : Int32) (x2 : Int32) (h : Hp), J x 22 [(0, vR x.2.2.2 x0), (1, .int x1), (2, .int x2)] [] h (mX12_close_l22f x0 x1 x2 h) (TL (S := (Int32 × Int32 × Hp)) x 22 (fun s => [(0, vR x.2.2.2 x0), (1, .int s.1), (2, .int s.2.1)]) [] (fun s => s.2.2) (fun r => r = u)) := by
      intro x1 x2 h
      have hb117 : ∀ (x0 : Nat) (x1 : Int32) (x2 : Int32) (h : Hp), J x 117 [(0, vR x.2.2.2 x0), (1, .int x1), (2, .int x2)] [] h (mX12_close_b117 x0 x1 x2 h) (TL (S := (Int32 × Int32 × Hp)) x 22 (fun s => [(0, vR x.2.2.2 x0), (1, .int s.1), (2, .int s.2.1)]) [] (fun s => s.2.2) (fun r => r = u)) := by
        intro x0 x1 x2 h
        unfold mX12_close_b117
        refine j_iinc (q := 120) (l2 := [(0, vR x.2.2.2 x0), (1, .int x1)]) hx (dc kX12_close_1 6 rfl) 2 rfl (v := (1 : Int32)) (by decide) (hn 2 (by decide)) [0, 1] rfl ⟨⟨show (0 : Nat) ≠ 2 by decide, Or.inl (show (0 : Nat) + 1 ≠ 2 by decide)⟩, ⟨⟨show (1 : Nat) ≠ 2 by decide, Or.inr rfl⟩, trivial⟩⟩ rfl ?_
        refine j_goto (q := 22) hx (dc kX12_close_1 7 rfl) (by decide) ?_
        exact j_back [1, 2, 0] (x1, (x2 + (1 : Int32)), h) rfl rfl
      have hb115 : ∀ (x0 : Nat) (x2 : Int32) (t0 : Int32) (t1 : Int32) (h : Hp), J x 115 [(0, vR x.2.2.2 x0), (2, .int x2)] [.int t1, .int t0] h (mX12_close_b115 x0 x2 t0 t1 h) (TL (S := (Int32 × Int32 × Hp)) x 22 (fun s => [(0, vR x.2.2.2 x0), (1, .int s.1), (2, .int s.2.1)]) [] (fun s => s.2.2) (fun r => r = u)) := by
        intro x0 x2 t0 t1 h
        unfold mX12_close_b115
        refine j_iadd (q := 116) hx (dc kX12_close_1 4 rfl) rfl ?_
        refine j_istore_n (q := 117) (i := 1) (l2 := [(0, vR x.2.2.2 x0), (2, .int x2)]) hx (dc kX12_close_1 5 rfl) rfl (hn 1 (by decide)) [0, 1] rfl ⟨⟨show (0 : Nat) ≠ 1 by decide, Or.inr (vR_cat _ _)⟩, ⟨⟨show (2 : Nat) ≠ 1 by decide, Or.inl (show (2 : Nat) + 1 ≠ 1 by decide)⟩, trivial⟩⟩ rfl ?_
        exact j_sub [1, 0, 2] rfl (hb117 x0 (t0 + t1) x2 h)
      have hb101 : ∀ (x0 : Nat) (x1 : Int32) (x2 : Int32) (x5 : Int32) (t0 : Nat) (t1 : Int32) (t2 : Int32) (t3 : Int32) (h : Hp), J x 101 [(0, vR x.2.2.2 x0), (1, .int x1), (2, .int x2), (5, .int x5)] [.int t3, .int t2, .int t1, vR x.2.2.2 t0] h (mX12_close_b101 x0 x1 x2 x5 t0 t1 t2 t3 h) (TL (S := (Int32 × Int32 × Hp)) x 22 (fun s => [(0, vR x.2.2.2 x0), (1, .int s.1), (2, .int s.2.1)]) [] (fun s => s.2.2) (fun r => r = u)) := by
        intro x0 x1 x2 x5 t0 t1 t2 t3 h
        unfold mX12_close_b101
        refine w_cVVW (q := 104) (As := [.int t1, .int t2, .int t3]) (st := []) hx (dc kX12_close_0 61 rfl) cf12 (by decide) rfl (cI _ my_X12_makes lm_X12_407 (by decide)) vs_X12_makes rfl (fun u hu => sX12_makes _ _ _ _ _ _ _ _ hu) (fun e => ite_ne (by unfold mX12_makes at e; exact e)) (Nat.zero_le _) rfl (fun h18 => ?_)
        refine j_iload_n (q := 105) hx (dc kX12_close_0 62 rfl) rfl 1 rfl rfl ?_
        refine j_iload (q := 107) hx (dc kX12_close_0 63 rfl) 3 rfl rfl ?_
        refine j_if_eq (q := 110) (tgt := 114) hx (dc kX12_close_1 0 rfl) (by decide) Iff.rfl rfl ?_ ?_
        · refine j_iconst (q := 115) (v := (0 : Int32)) hx (dc kX12_close_1 3 rfl) (by decide) rfl ?_
          exact j_sub [0, 2] rfl (hb115 x0 x2 x1 (0 : Int32) h18)
        · refine j_iconst (q := 111) (v := (1 : Int32)) hx (dc kX12_close_1 1 rfl) (by decide) rfl ?_
          refine j_goto (q := 115) hx (dc kX12_close_1 2 rfl) (by decide) ?_
          exact j_sub [0, 2] rfl (hb115 x0 x2 x1 (1 : Int32) h18)
      have hb90 : ∀ (x0 : Nat) (x1 : Int32) (x2 : Int32) (x4 : Int32) (x5 : Int32) (t0 : Nat) (t1 : Int32) (t2 : Int32) (h : Hp), J x 90 [(0, vR x.2.2.2 x0), (1, .int x1), (2, .int x2), (4, .int x4), (5, .int x5)] [.int t2, .int t1, vR x.2.2.2 t0] h (mX12_close_b90 x0 x1 x2 x4 x5 t0 t1 t2 h) (TL (S := (Int32 × Int32 × Hp)) x 22 (fun s => [(0, vR x.2.2.2 x0), (1, .int s.1), (2, .int s.2.1)]) [] (fun s => s.2.2) (fun r => r = u)) := by
        intro x0 x1 x2 x4 x5 t0 t1 t2 h
        unfold mX12_close_b90
        refine j_iload (q := 92) hx (dc kX12_close_0 56 rfl) 4 rfl rfl ?_
        refine j_if_eq (q := 95) (tgt := 100) hx (dc kX12_close_0 57 rfl) (by decide) Iff.rfl rfl ?_ ?_
        · refine j_iconst (q := 101) (v := (0 : Int32)) hx (dc kX12_close_0 60 rfl) (by decide) rfl ?_
          exact j_sub [0, 1, 2, 4] rfl (hb101 x0 x1 x2 x5 t0 t1 t2 (0 : Int32) h)
        · refine j_iload (q := 97) hx (dc kX12_close_0 58 rfl) 3 rfl rfl ?_
          refine j_goto (q := 101) hx (dc kX12_close_0 59 rfl) (by decide) ?_
          exact j_sub [0, 1, 2, 4] rfl (hb101 x0 x1 x2 x5 t0 t1 t2 x4 h)
      unfold mX12_close_l22f
      refine j_iload_n (q := 23) hx (dc kX12_close_0 14 rfl) rfl 2 rfl rfl ?_
      refine j_aload_n (q := 24) hx (dc kX12_close_0 15 rfl) rfl 0 rfl rfl ?_
      refine w_gR (q := 27) hx (dc kX12_close_0 16 rfl) ff_X12_0 lk_X12_7 rfl (fun v5 => ?_)
      refine j_iconst (q := 28) (v := (1 : Int32)) hx (dc kX12_close_0 17 rfl) (by decide) rfl ?_
      refine j_ldI (q := 29) hx (dc kX12_close_0 18 rfl) rfl (fun v6 => ?_)
      refine j_icmp_geS (q := 32) (tgt := 123) hx (dc kX12_close_0 19 rfl) (by decide) rfl ?_ ?_
      · refine j_exit ?_
        refine j_aload_n (q := 124) hx (dc kX12_close_1 8 rfl) rfl 0 rfl rfl ?_
        refine w_gR (q := 127) hx (dc kX12_close_1 9 rfl) ff_X12_4 lk_X12_23 rfl (fun v7 => ?_)
        refine j_bipush (q := 129) (v := (16 : Int32)) hx (dc kX12_close_1 10 rfl) (by decide) rfl ?_
        refine j_iconst (q := 130) (v := (1 : Int32)) hx (dc kX12_close_1 11 rfl) (by decide) rfl ?_
        refine w_stI (q := 131) hx (dc kX12_close_1 12 rfl) rfl (fun h8 => ?_)
        refine j_iload_n (q := 132) hx (dc kX12_close_1 13 rfl) rfl 1 rfl rfl ?_
        exact r_iW hx hR (dc kX12_close_1 14 rfl)
      · refine j_aload_n (q := 33) hx (dc kX12_close_0 20 rfl) rfl 0 rfl rfl ?_
        refine j_iload_n (q := 34) hx (dc kX12_close_0 21 rfl) rfl 2 rfl rfl ?_
        refine w_cVIR (q := 37) (As := [.int x2]) (st := []) hx (dc kX12_close_0 22 rfl) cf12 (by decide) rfl (cI _ my_X12_firstSayer lm_X12_413 (by decide)) vs_X12_firstSayer rfl (fun u hu => sX12_firstSayer _ _ _ _ _ _ hu) (fun e => ite_ne (by unfold mX12_firstSayer at e; exact e)) (Nat.zero_le _) rfl (fun v9 => ?_)
        refine j_istore_n (q := 38) (i := 3) (l2 := [(0, vR x.2.2.2 x0), (1, .int x1), (2, .int x2)]) hx (dc kX12_close_0 23 rfl) rfl (hn 3 (by decide)) [0, 1, 2] rfl ⟨⟨show (0 : Nat) ≠ 3 by decide, Or.inl (show (0 : Nat) + 1 ≠ 3 by decide)⟩, ⟨⟨show (1 : Nat) ≠ 3 by decide, Or.inl (show (1 : Nat) + 1 ≠ 3 by decide)⟩, ⟨⟨show (2 : Nat) ≠ 3 by decide, Or.inr rfl⟩, trivial⟩⟩⟩ rfl ?_
        refine j_aload_n (q := 39) hx (dc kX12_close_0 24 rfl) rfl 1 rfl rfl ?_
        refine w_gR (q := 42) hx (dc kX12_close_0 25 rfl) ff_X12_4 lk_X12_23 rfl (fun v11 => ?_)
        refine j_iconst (q := 43) (v := (0 : Int32)) hx (dc kX12_close_0 26 rfl) (by decide) rfl ?_
        refine j_iload_n (q := 44) hx (dc kX12_close_0 27 rfl) rfl 3 rfl rfl ?_
        refine j_iadd (q := 45) hx (dc kX12_close_0 28 rfl) rfl ?_
        refine j_ldI (q := 46) hx (dc kX12_close_0 29 rfl) rfl (fun v12 => ?_)
        refine j_if_neS (q := 49) (tgt := 117) hx (dc kX12_close_0 30 rfl) (by decide) rfl ?_ ?_
        · exact j_sub [1, 2, 3] rfl (hb117 x0 x1 x2 h)
        · refine j_iload_n (q := 50) hx (dc kX12_close_0 31 rfl) rfl 0 rfl rfl ?_
          refine j_iconst (q := 51) (v := (-1 : Int32)) hx (dc kX12_close_0 32 rfl) (by decide) rfl ?_
          refine j_icmp_neS (q := 54) (tgt := 57) hx (dc kX12_close_0 33 rfl) (by decide) rfl ?_ ?_
          · refine j_aload_n (q := 58) hx (dc kX12_close_0 35 rfl) rfl 1 rfl rfl ?_
            refine j_iload_n (q := 59) hx (dc kX12_close_0 36 rfl) rfl 0 rfl rfl ?_
            refine j_iconst (q := 60) (v := (5 : Int32)) hx (dc kX12_close_0 37 rfl) (by decide) rfl ?_
            refine w_cVIR (q := 63) (As := [.int v9, .int (5 : Int32)]) (st := []) hx (dc kX12_close_0 38 rfl) cf12 (by decide) rfl (cI _ my_X12_its lm_X12_339 (by decide)) vs_X12_its rfl (fun u hu => sX12_its _ _ _ _ _ _ _ hu) (fun e => ite_ne (by unfold mX12_its at e; exact e)) (Nat.zero_le _) rfl (fun v13 => ?_)
            refine j_iload_n (q := 64) hx (dc kX12_close_0 39 rfl) rfl 3 rfl rfl ?_
            refine j_ishr (q := 65) hx (dc kX12_close_0 40 rfl) rfl ?_
            refine j_iconst (q := 66) (v := (1 : Int32)) hx (dc kX12_close_0 41 rfl) (by decide) rfl ?_
            refine j_iand (q := 67) hx (dc kX12_close_0 42 rfl) rfl ?_
            refine j_istore (q := 69) (i := 4) (l2 := [(0, vR x.2.2.2 x0), (1, .int x1), (2, .int x2)]) hx (dc kX12_close_0 43 rfl) (hn 4 (by decide)) [1, 2, 3] rfl ⟨⟨show (0 : Nat) ≠ 4 by decide, Or.inl (show (0 : Nat) + 1 ≠ 4 by decide)⟩, ⟨⟨show (1 : Nat) ≠ 4 by decide, Or.inl (show (1 : Nat) + 1 ≠ 4 by decide)⟩, ⟨⟨show (2 : Nat) ≠ 4 by decide, Or.inl (show (2 : Nat) + 1 ≠ 4 by decide)⟩, trivial⟩⟩⟩ rfl ?_
            refine j_aload_n (q := 70) hx (dc kX12_close_0 44 rfl) rfl 1 rfl rfl ?_
            refine j_iload_n (q := 71) hx (dc kX12_close_0 45 rfl) rfl 3 rfl rfl ?_
            refine j_iload (q := 73) hx (dc kX12_close_0 46 rfl) 0 rfl rfl ?_
            refine w_cVIR (q := 76) (As := [.int x2, .int ((v13 >>> (x2 &&& 31)) &&& (1 : Int32))]) (st := []) hx (dc kX12_close_0 47 rfl) cf12 (by decide) rfl (cI _ my_X12_isSomeBy lm_X12_401 (by decide)) vs_X12_isSomeBy rfl (fun u hu => sX12_isSomeBy _ _ _ _ _ _ _ hu) (fun e => ite_ne (by unfold mX12_isSomeBy at e; exact e)) (Nat.zero_le _) rfl (fun v15 => ?_)
            refine j_istore (q := 78) (i := 5) (l2 := [(4, .int ((v13 >>> (x2 &&& 31)) &&& (1 : Int32))), (0, vR x.2.2.2 x0), (1, .int x1), (2, .int x2)]) hx (dc kX12_close_0 48 rfl) (hn 5 (by decide)) [0, 1, 2, 3] rfl ⟨⟨show (4 : Nat) ≠ 5 by decide, Or.inr rfl⟩, ⟨⟨show (0 : Nat) ≠ 5 by decide, Or.inl (show (0 : Nat) + 1 ≠ 5 by decide)⟩, ⟨⟨show (1 : Nat) ≠ 5 by decide, Or.inl (show (1 : Nat) + 1 ≠ 5 by decide)⟩, ⟨⟨show (2 : Nat) ≠ 5 by decide, Or.inl (show (2 : Nat) + 1 ≠ 5 by decide)⟩, trivial⟩⟩⟩⟩ rfl ?_
            refine j_aload_n (q := 79) hx (dc kX12_close_0 49 rfl) rfl 2 rfl rfl ?_
            refine j_iload_n (q := 80) hx (dc kX12_close_0 50 rfl) rfl 4 rfl rfl ?_
            refine j_iload (q := 82) hx (dc kX12_close_0 51 rfl) 0 rfl rfl ?_
            refine j_if_eq (q := 85) (tgt := 89) hx (dc kX12_close_0 52 rfl) (by decide) Iff.rfl rfl ?_ ?_
            · refine j_iconst (q := 90) (v := (3 : Int32)) hx (dc kX12_close_0 55 rfl) (by decide) rfl ?_
              exact j_sub [2, 3, 4, 1, 0] rfl (hb90 x0 x1 x2 ((v13 >>> (x2 &&& 31)) &&& (1 : Int32)) v15 x0 x2 (3 : Int32) h)
            · refine j_iconst (q := 86) (v := (1 : Int32)) hx (dc kX12_close_0 53 rfl) (by decide) rfl ?_
              refine j_goto (q := 90) hx (dc kX12_close_0 54 rfl) (by decide) ?_
              exact j_sub [2, 3, 4, 1, 0] rfl (hb90 x0 x1 x2 ((v13 >>> (x2 &&& 31)) &&& (1 : Int32)) v15 x0 x2 (1 : Int32) h)
          · refine j_goto (q := 117) hx (dc kX12_close_0 34 rfl) (by decide) ?_
            exact j_sub [1, 2, 3] rfl (hb117 x0 x1 x2 h)
    exact j_loop (S := (Int32 × Int32 × Hp)) (lvf := fun s => [(0, vR x.2.2.2 x0), (1, .int s.1), (2, .int s.2.1)]) (hpf := fun s => s.2.2) (f := (fun s : (Int32 × Int32 × Hp) => mX12_close_l22f x0 s.1 s.2.1 s.2.2)) (fun s => hB s.1 s.2.1 s.2.2) (x1, x2, h)
  unfold mX12_close
  refine J.ckd fun hck => ?_
  refine j_aload_n (q := 1) hx (dc kX12_close_0 0 rfl) rfl 0 rfl rfl ?_
  refine w_gR (q := 4) hx (dc kX12_close_0 1 rfl) ff_X12_4 lk_X12_23 rfl (fun v1 => ?_)
  refine j_bipush (q := 6) (v := (16 : Int32)) hx (dc kX12_close_0 2 rfl) (by decide) rfl ?_
  refine j_ldI (q := 7) hx (dc kX12_close_0 3 rfl) rfl (fun v2 => ?_)
  refine j_iconst (q := 8) (v := (1 : Int32)) hx (dc kX12_close_0 4 rfl) (by decide) rfl ?_
  refine j_icmp_neS (q := 11) (tgt := 14) hx (dc kX12_close_0 5 rfl) (by decide) rfl ?_ ?_
  · refine j_aload_n (q := 15) hx (dc kX12_close_0 8 rfl) rfl 0 rfl rfl ?_
    refine w_cVVW (q := 18) (As := []) (st := []) hx (dc kX12_close_0 9 rfl) cf12 (by decide) rfl (cI _ my_X12_keepsAct lm_X12_404 (by decide)) vs_X12_keepsAct rfl (fun u hu => sX12_keepsAct _ _ _ _ _ hu) (fun e => ite_ne (by unfold mX12_keepsAct at e; exact e)) (Nat.zero_le _) rfl (fun h4 => ?_)
    refine j_iconst (q := 19) (v := (0 : Int32)) hx (dc kX12_close_0 10 rfl) (by decide) rfl ?_
    refine j_istore_n (q := 20) (i := 1) (l2 := [(0, vR x.2.2.2 x0)]) hx (dc kX12_close_0 11 rfl) rfl (hn 1 (by decide)) [0] rfl ⟨⟨show (0 : Nat) ≠ 1 by decide, Or.inr (vR_cat _ _)⟩, trivial⟩ rfl ?_
    refine j_iconst (q := 21) (v := (0 : Int32)) hx (dc kX12_close_0 12 rfl) (by decide) rfl ?_
    refine j_istore_n (q := 22) (i := 2) (l2 := [(1, .int (0 : Int32)), (0, vR x.2.2.2 x0)]) hx (dc kX12_close_0 13 rfl) rfl (hn 2 (by decide)) [0, 1] rfl ⟨⟨show (1 : Nat) ≠ 2 by decide, Or.inr rfl⟩, ⟨⟨show (0 : Nat) ≠ 2 by decide, Or.inl (show (0 : Nat) + 1 ≠ 2 by decide)⟩, trivial⟩⟩ rfl ?_
    exact j_sub [2, 1, 0] rfl (hb22 x0 (0 : Int32) (0 : Int32) h4)
  · refine j_bipush (q := 13) (v := (-2 : Int32)) hx (dc kX12_close_0 6 rfl) (by decide) rfl ?_
    exact r_iW hx hR (dc kX12_close_0 7 rfl)

set_option maxHeartbeats 4000000 in
set_option maxRecDepth 100000 in
theorem sX12_find (l : Launch) (w : Wd) (x0 : Nat) (x1 : Int32) (x2 : Int32) (h : Hp) (u : (Int32 × Hp)) (hK : mX12_find x0 x1 x2 h = some u) : M1 l w mi_X12_find 5 [vR w x0, .int x1, .int x2] h u.2 (some (.int u.1)) := by
  refine M1.of (own := RX12) (T := fun _ r => r = u) hK (by decide +kernel) rfl (by first | (simp only [lg_lenR, lg_lenI, lg_lenL, lg_len0]; decide) | decide) (fun x hx hnl hhf hl hw hret hnm hQ h0e => ⟨?_, rfl⟩)
  subst hw
  subst hl
  have hR : Rt x h u.2 (some (.int u.1)) ((some .int)) := ⟨h0e, hhf, hret, hQ⟩
  have hn : ∀ i, i < 3 → i < x.2.2.1.1.1 := fun i hi => by rw [hnl]; exact hi
  have e0 : lv_args 0 [vR x.2.2.2 x0, .int x1, .int x2] = [(0, vR x.2.2.2 x0), (1, .int x1), (2, .int x2)] := by simp only [lv_argsR, lv_argsI, lv_argsL, lv_args0]
  rw [e0]
  have hb70 : ∀ (x0 : Nat) (t0 : Nat) (t1 : Int32) (t2 : Int32) (t3 : Int32) (h : Hp), J x 70 [(0, vR x.2.2.2 x0)] [.int t3, .int t2, .int t1, vR x.2.2.2 t0] h (mX12_find_b70 x0 t0 t1 t2 t3 h) (fun r => r = u) := by
    intro x0 t0 t1 t2 t3 h
    unfold mX12_find_b70
    refine w_cVVW (q := 73) (As := [.int t1, .int t2, .int t3]) (st := []) hx (dc kX12_find_0 40 rfl) cf12 (by decide) rfl (cI _ my_X12_makes lm_X12_407 (by decide)) vs_X12_makes rfl (fun u hu => sX12_makes _ _ _ _ _ _ _ _ hu) (fun e => ite_ne (by unfold mX12_makes at e; exact e)) (Nat.zero_le _) rfl (fun h12 => ?_)
    refine j_aload_n (q := 74) hx (dc kX12_find_0 41 rfl) rfl 0 rfl rfl ?_
    refine w_gR (q := 77) hx (dc kX12_find_0 42 rfl) ff_X12_0 lk_X12_7 rfl (fun v13 => ?_)
    refine j_iconst (q := 78) (v := (1 : Int32)) hx (dc kX12_find_0 43 rfl) (by decide) rfl ?_
    refine j_ldI (q := 79) hx (dc kX12_find_0 44 rfl) rfl (fun v14 => ?_)
    refine j_aload_n (q := 80) hx (dc kX12_find_0 45 rfl) rfl 0 rfl rfl ?_
    refine w_cVIR (q := 83) (As := []) (st := [.int v14]) hx (dc kX12_find_0 46 rfl) cf12 (by decide) rfl (cI _ my_X12_knownFacts lm_X12_329 (by decide)) vs_X12_knownFacts rfl (fun u hu => sX12_knownFacts _ _ _ _ _ hu) (fun e => ite_ne (by unfold mX12_knownFacts at e; exact e)) (sum_le (sum_I sum_nil) (by decide)) rfl (fun v15 => ?_)
    refine w_cSIR (q := 86) (As := [.int v15]) (st := [.int v14]) hx (dc kX12_find_0 47 rfl) (cI _ my_X12_bits lm_X12_315 (by decide)) st_X12_bits rfl (fun u hu => sX12_bits _ _ _ _ _ hu) (sum_le (sum_I sum_nil) (by decide)) rfl (fun v17 => ?_)
    refine j_isub (q := 87) hx (dc kX12_find_0 48 rfl) rfl ?_
    exact r_iW hx hR (dc kX12_find_0 49 rfl)
  have hb45 : ∀ (x0 : Nat) (x1 : Int32) (x2 : Int32) (t0 : Nat) (t1 : Int32) (t2 : Int32) (h : Hp), J x 45 [(0, vR x.2.2.2 x0), (1, .int x1), (2, .int x2)] [.int t2, .int t1, vR x.2.2.2 t0] h (mX12_find_b45 x0 x1 x2 t0 t1 t2 h) (fun r => r = u) := by
    intro x0 x1 x2 t0 t1 t2 h
    unfold mX12_find_b45
    refine w_cVIR (q := 48) (As := [.int t1, .int t2]) (st := []) hx (dc kX12_find_0 26 rfl) cf12 (by decide) rfl (cI _ my_X12_isSomeBy lm_X12_401 (by decide)) vs_X12_isSomeBy rfl (fun u hu => sX12_isSomeBy _ _ _ _ _ _ _ hu) (fun e => ite_ne (by unfold mX12_isSomeBy at e; exact e)) (Nat.zero_le _) rfl (fun v7 => ?_)
    refine j_if_neS (q := 51) (tgt := 54) hx (dc kX12_find_0 27 rfl) (by decide) rfl ?_ ?_
    · refine j_aload_n (q := 55) hx (dc kX12_find_0 30 rfl) rfl 0 rfl rfl ?_
      refine w_cVVW (q := 58) (As := []) (st := []) hx (dc kX12_find_0 31 rfl) cf12 (by decide) rfl (cI _ my_X12_keepsAct lm_X12_404 (by decide)) vs_X12_keepsAct rfl (fun u hu => sX12_keepsAct _ _ _ _ _ hu) (fun e => ite_ne (by unfold mX12_keepsAct at e; exact e)) (Nat.zero_le _) rfl (fun h10 => ?_)
      refine j_aload_n (q := 59) hx (dc kX12_find_0 32 rfl) rfl 0 rfl rfl ?_
      refine j_iload_n (q := 60) hx (dc kX12_find_0 33 rfl) rfl 1 rfl rfl ?_
      refine j_iconst (q := 61) (v := (4 : Int32)) hx (dc kX12_find_0 34 rfl) (by decide) rfl ?_
      refine j_iload_n (q := 62) hx (dc kX12_find_0 35 rfl) rfl 2 rfl rfl ?_
      refine j_if_eq (q := 65) (tgt := 69) hx (dc kX12_find_0 36 rfl) (by decide) Iff.rfl rfl ?_ ?_
      · refine j_iconst (q := 70) (v := (0 : Int32)) hx (dc kX12_find_0 39 rfl) (by decide) rfl ?_
        exact j_sub [0] rfl (hb70 x0 x0 x1 (4 : Int32) (0 : Int32) h10)
      · refine j_iconst (q := 66) (v := (1 : Int32)) hx (dc kX12_find_0 37 rfl) (by decide) rfl ?_
        refine j_goto (q := 70) hx (dc kX12_find_0 38 rfl) (by decide) ?_
        exact j_sub [0] rfl (hb70 x0 x0 x1 (4 : Int32) (1 : Int32) h10)
    · refine j_bipush (q := 53) (v := (-4 : Int32)) hx (dc kX12_find_0 28 rfl) (by decide) rfl ?_
      exact r_iW hx hR (dc kX12_find_0 29 rfl)
  unfold mX12_find
  refine J.ckd fun hck => ?_
  refine j_aload_n (q := 1) hx (dc kX12_find_0 0 rfl) rfl 0 rfl rfl ?_
  refine j_iload_n (q := 2) hx (dc kX12_find_0 1 rfl) rfl 1 rfl rfl ?_
  refine w_cVIR (q := 5) (As := [.int x1]) (st := []) hx (dc kX12_find_0 2 rfl) cf12 (by decide) rfl (cI _ my_X12_isFact lm_X12_374 (by decide)) vs_X12_isFact rfl (fun u hu => sX12_isFact _ _ _ _ _ _ hu) (fun e => ite_ne (by unfold mX12_isFact at e; exact e)) (Nat.zero_le _) rfl (fun v1 => ?_)
  refine j_if_neS (q := 8) (tgt := 10) hx (dc kX12_find_0 3 rfl) (by decide) rfl ?_ ?_
  · refine j_aload_n (q := 11) hx (dc kX12_find_0 6 rfl) rfl 0 rfl rfl ?_
    refine w_gR (q := 14) hx (dc kX12_find_0 7 rfl) ff_X12_4 lk_X12_23 rfl (fun v3 => ?_)
    refine j_bipush (q := 16) (v := (16 : Int32)) hx (dc kX12_find_0 8 rfl) (by decide) rfl ?_
    refine j_ldI (q := 17) hx (dc kX12_find_0 9 rfl) rfl (fun v4 => ?_)
    refine j_if_neS (q := 20) (tgt := 23) hx (dc kX12_find_0 10 rfl) (by decide) rfl ?_ ?_
    · refine j_aload_n (q := 24) hx (dc kX12_find_0 13 rfl) rfl 0 rfl rfl ?_
      refine j_iload_n (q := 25) hx (dc kX12_find_0 14 rfl) rfl 1 rfl rfl ?_
      refine w_cVIR (q := 28) (As := [.int x1]) (st := []) hx (dc kX12_find_0 15 rfl) cf12 (by decide) rfl (cI _ my_X12_isKnown lm_X12_326 (by decide)) vs_X12_isKnown rfl (fun u hu => sX12_isKnown _ _ _ _ _ _ hu) (fun e => ite_ne (by unfold mX12_isKnown at e; exact e)) (Nat.zero_le _) rfl (fun v5 => ?_)
      refine j_if_eq (q := 31) (tgt := 34) hx (dc kX12_find_0 16 rfl) (by decide) Iff.rfl rfl ?_ ?_
      · refine j_aload_n (q := 35) hx (dc kX12_find_0 19 rfl) rfl 0 rfl rfl ?_
        refine j_iload_n (q := 36) hx (dc kX12_find_0 20 rfl) rfl 1 rfl rfl ?_
        refine j_iload_n (q := 37) hx (dc kX12_find_0 21 rfl) rfl 2 rfl rfl ?_
        refine j_if_eq (q := 40) (tgt := 44) hx (dc kX12_find_0 22 rfl) (by decide) Iff.rfl rfl ?_ ?_
        · refine j_iconst (q := 45) (v := (0 : Int32)) hx (dc kX12_find_0 25 rfl) (by decide) rfl ?_
          exact hb45 x0 x1 x2 x0 x1 (0 : Int32) h
        · refine j_iconst (q := 41) (v := (1 : Int32)) hx (dc kX12_find_0 23 rfl) (by decide) rfl ?_
          refine j_goto (q := 45) hx (dc kX12_find_0 24 rfl) (by decide) ?_
          exact hb45 x0 x1 x2 x0 x1 (1 : Int32) h
      · refine j_bipush (q := 33) (v := (-3 : Int32)) hx (dc kX12_find_0 17 rfl) (by decide) rfl ?_
        exact r_iW hx hR (dc kX12_find_0 18 rfl)
    · refine j_bipush (q := 22) (v := (-2 : Int32)) hx (dc kX12_find_0 11 rfl) (by decide) rfl ?_
      exact r_iW hx hR (dc kX12_find_0 12 rfl)
  · refine j_iconst (q := 9) (v := (-1 : Int32)) hx (dc kX12_find_0 4 rfl) (by decide) rfl ?_
    exact r_iW hx hR (dc kX12_find_0 5 rfl)

set_option maxHeartbeats 4000000 in
set_option maxRecDepth 100000 in
theorem sX12_say (l : Launch) (w : Wd) (x0 : Nat) (x1 : Int32) (x2 : Int32) (x3 : Int32) (h : Hp) (u : (Int32 × Hp)) (hK : mX12_say x0 x1 x2 x3 h = some u) : M1 l w mi_X12_say 3 [vR w x0, .int x1, .int x2, .int x3] h u.2 (some (.int u.1)) := by
  refine M1.of (own := RX12) (T := fun _ r => r = u) hK (by decide +kernel) rfl (by first | (simp only [lg_lenR, lg_lenI, lg_lenL, lg_len0]; decide) | decide) (fun x hx hnl hhf hl hw hret hnm hQ h0e => ⟨?_, rfl⟩)
  subst hw
  subst hl
  have hR : Rt x h u.2 (some (.int u.1)) ((some .int)) := ⟨h0e, hhf, hret, hQ⟩
  have hn : ∀ i, i < 6 → i < x.2.2.1.1.1 := fun i hi => by rw [hnl]; exact hi
  have e0 : lv_args 0 [vR x.2.2.2 x0, .int x1, .int x2, .int x3] = [(0, vR x.2.2.2 x0), (1, .int x1), (2, .int x2), (3, .int x3)] := by simp only [lv_argsR, lv_argsI, lv_argsL, lv_args0]
  rw [e0]
  have hb171 : ∀ (x0 : Nat) (x1 : Int32) (t0 : Nat) (t1 : Int32) (t2 : Int32) (t3 : Int32) (t4 : Int32) (h : Hp), J x 171 [(0, vR x.2.2.2 x0), (1, .int x1)] [.int t4, .int t3, .int t2, .int t1, vR x.2.2.2 t0] h (mX12_say_b171 x0 x1 t0 t1 t2 t3 t4 h) (fun r => r = u) := by
    intro x0 x1 t0 t1 t2 t3 t4 h
    unfold mX12_say_b171
    refine j_ior (q := 172) hx (dc kX12_say_1 43 rfl) rfl ?_
    refine w_cVVW (q := 175) (As := [.int t1, .int t2, .int (t3 ||| t4)]) (st := []) hx (dc kX12_say_1 44 rfl) cf12 (by decide) rfl (cI _ my_X12_puts lm_X12_283 (by decide)) vs_X12_puts rfl (fun u hu => sX12_puts _ _ _ _ _ _ _ _ hu) (fun e => ite_ne (by unfold mX12_puts at e; exact e)) (Nat.zero_le _) rfl (fun h24 => ?_)
    refine j_aload_n (q := 176) hx (dc kX12_say_1 45 rfl) rfl 0 rfl rfl ?_
    refine j_iload_n (q := 177) hx (dc kX12_say_1 46 rfl) rfl 1 rfl rfl ?_
    refine j_iconst (q := 178) (v := (4 : Int32)) hx (dc kX12_say_1 47 rfl) (by decide) rfl ?_
    refine w_cVIR (q := 181) (As := [.int x1, .int (4 : Int32)]) (st := []) hx (dc kX12_say_1 48 rfl) cf12 (by decide) rfl (cI _ my_X12_its lm_X12_339 (by decide)) vs_X12_its rfl (fun u hu => sX12_its _ _ _ _ _ _ _ hu) (fun e => ite_ne (by unfold mX12_its at e; exact e)) (Nat.zero_le _) rfl (fun v25 => ?_)
    refine w_cSIR (q := 184) (As := [.int v25]) (st := []) hx (dc kX12_say_1 49 rfl) (cI _ my_X12_bits lm_X12_315 (by decide)) st_X12_bits rfl (fun u hu => sX12_bits _ _ _ _ _ hu) (Nat.zero_le _) rfl (fun v27 => ?_)
    exact r_iW hx hR (dc kX12_say_1 50 rfl)
  have hb143 : ∀ (x0 : Nat) (x1 : Int32) (x2 : Int32) (x3 : Int32) (x5 : Int32) (t0 : Nat) (t1 : Int32) (t2 : Int32) (t3 : Int32) (t4 : Int32) (h : Hp), J x 143 [(0, vR x.2.2.2 x0), (1, .int x1), (2, .int x2), (3, .int x3), (5, .int x5)] [.int t4, .int t3, .int t2, .int t1, vR x.2.2.2 t0] h (mX12_say_b143 x0 x1 x2 x3 x5 t0 t1 t2 t3 t4 h) (fun r => r = u) := by
    intro x0 x1 x2 x3 x5 t0 t1 t2 t3 t4 h
    unfold mX12_say_b143
    refine j_ior (q := 144) hx (dc kX12_say_1 24 rfl) rfl ?_
    refine w_cVVW (q := 147) (As := [.int t1, .int t2, .int (t3 ||| t4)]) (st := []) hx (dc kX12_say_1 25 rfl) cf12 (by decide) rfl (cI _ my_X12_puts lm_X12_283 (by decide)) vs_X12_puts rfl (fun u hu => sX12_puts _ _ _ _ _ _ _ _ hu) (fun e => ite_ne (by unfold mX12_puts at e; exact e)) (Nat.zero_le _) rfl (fun h20 => ?_)
    refine j_aload_n (q := 148) hx (dc kX12_say_1 26 rfl) rfl 0 rfl rfl ?_
    refine j_iload_n (q := 149) hx (dc kX12_say_1 27 rfl) rfl 1 rfl rfl ?_
    refine j_iconst (q := 150) (v := (5 : Int32)) hx (dc kX12_say_1 28 rfl) (by decide) rfl ?_
    refine j_aload_n (q := 151) hx (dc kX12_say_1 29 rfl) rfl 0 rfl rfl ?_
    refine j_iload_n (q := 152) hx (dc kX12_say_1 30 rfl) rfl 1 rfl rfl ?_
    refine j_iconst (q := 153) (v := (5 : Int32)) hx (dc kX12_say_1 31 rfl) (by decide) rfl ?_
    refine w_cVIR (q := 156) (As := [.int x1, .int (5 : Int32)]) (st := [.int (5 : Int32), .int x1, vR x.2.2.2 x0]) hx (dc kX12_say_1 32 rfl) cf12 (by decide) rfl (cI _ my_X12_its lm_X12_339 (by decide)) vs_X12_its rfl (fun u hu => sX12_its _ _ _ _ _ _ _ hu) (fun e => ite_ne (by unfold mX12_its at e; exact e)) (sum_le (sum_I (sum_I (sum_R sum_nil))) (by decide)) rfl (fun v21 => ?_)
    refine j_iload (q := 158) hx (dc kX12_say_1 33 rfl) 4 rfl rfl ?_
    refine j_iand (q := 159) hx (dc kX12_say_1 34 rfl) rfl ?_
    refine j_iload_n (q := 160) hx (dc kX12_say_1 35 rfl) rfl 3 rfl rfl ?_
    refine j_iconst (q := 161) (v := (1 : Int32)) hx (dc kX12_say_1 36 rfl) (by decide) rfl ?_
    refine j_icmp_neS (q := 164) (tgt := 170) hx (dc kX12_say_1 37 rfl) (by decide) rfl ?_ ?_
    · refine j_iconst (q := 171) (v := (0 : Int32)) hx (dc kX12_say_1 42 rfl) (by decide) rfl ?_
      exact j_sub [0, 1] rfl (hb171 x0 x1 x0 x1 (5 : Int32) (v21 &&& x5) (0 : Int32) h20)
    · refine j_iconst (q := 165) (v := (1 : Int32)) hx (dc kX12_say_1 38 rfl) (by decide) rfl ?_
      refine j_iload_n (q := 166) hx (dc kX12_say_1 39 rfl) rfl 2 rfl rfl ?_
      refine j_ishl (q := 167) hx (dc kX12_say_1 40 rfl) rfl ?_
      refine j_goto (q := 171) hx (dc kX12_say_1 41 rfl) (by decide) ?_
      exact j_sub [0, 1] rfl (hb171 x0 x1 x0 x1 (5 : Int32) (v21 &&& x5) ((1 : Int32) <<< (x2 &&& 31)) h20)
  have hb108 : ∀ (x0 : Nat) (x1 : Int32) (x2 : Int32) (x3 : Int32) (h : Hp), J x 108 [(0, vR x.2.2.2 x0), (1, .int x1), (2, .int x2), (3, .int x3)] [] h (mX12_say_b108 x0 x1 x2 x3 h) (fun r => r = u) := by
    intro x0 x1 x2 x3 h
    unfold mX12_say_b108
    refine j_aload_n (q := 109) hx (dc kX12_say_0 63 rfl) rfl 0 rfl rfl ?_
    refine w_cVVW (q := 112) (As := []) (st := []) hx (dc kX12_say_1 0 rfl) cf12 (by decide) rfl (cI _ my_X12_keepsAct lm_X12_404 (by decide)) vs_X12_keepsAct rfl (fun u hu => sX12_keepsAct _ _ _ _ _ hu) (fun e => ite_ne (by unfold mX12_keepsAct at e; exact e)) (Nat.zero_le _) rfl (fun h16 => ?_)
    refine j_iconst (q := 113) (v := (1 : Int32)) hx (dc kX12_say_1 1 rfl) (by decide) rfl ?_
    refine j_iload_n (q := 114) hx (dc kX12_say_1 2 rfl) rfl 2 rfl rfl ?_
    refine j_ishl (q := 115) hx (dc kX12_say_1 3 rfl) rfl ?_
    refine j_iconst (q := 116) (v := (-1 : Int32)) hx (dc kX12_say_1 4 rfl) (by decide) rfl ?_
    refine j_ixor (q := 117) hx (dc kX12_say_1 5 rfl) rfl ?_
    refine j_istore (q := 119) (i := 5) (l2 := [(0, vR x.2.2.2 x0), (1, .int x1), (2, .int x2), (3, .int x3)]) hx (dc kX12_say_1 6 rfl) (hn 5 (by decide)) [0, 1, 2, 3] rfl ⟨⟨show (0 : Nat) ≠ 5 by decide, Or.inl (show (0 : Nat) + 1 ≠ 5 by decide)⟩, ⟨⟨show (1 : Nat) ≠ 5 by decide, Or.inl (show (1 : Nat) + 1 ≠ 5 by decide)⟩, ⟨⟨show (2 : Nat) ≠ 5 by decide, Or.inl (show (2 : Nat) + 1 ≠ 5 by decide)⟩, ⟨⟨show (3 : Nat) ≠ 5 by decide, Or.inl (show (3 : Nat) + 1 ≠ 5 by decide)⟩, trivial⟩⟩⟩⟩ rfl ?_
    refine j_aload_n (q := 120) hx (dc kX12_say_1 7 rfl) rfl 1 rfl rfl ?_
    refine j_iload_n (q := 121) hx (dc kX12_say_1 8 rfl) rfl 2 rfl rfl ?_
    refine j_iconst (q := 122) (v := (4 : Int32)) hx (dc kX12_say_1 9 rfl) (by decide) rfl ?_
    refine j_aload_n (q := 123) hx (dc kX12_say_1 10 rfl) rfl 1 rfl rfl ?_
    refine j_iload_n (q := 124) hx (dc kX12_say_1 11 rfl) rfl 2 rfl rfl ?_
    refine j_iconst (q := 125) (v := (4 : Int32)) hx (dc kX12_say_1 12 rfl) (by decide) rfl ?_
    refine w_cVIR (q := 128) (As := [.int x1, .int (4 : Int32)]) (st := [.int (4 : Int32), .int x1, vR x.2.2.2 x0]) hx (dc kX12_say_1 13 rfl) cf12 (by decide) rfl (cI _ my_X12_its lm_X12_339 (by decide)) vs_X12_its rfl (fun u hu => sX12_its _ _ _ _ _ _ _ hu) (fun e => ite_ne (by unfold mX12_its at e; exact e)) (sum_le (sum_I (sum_I (sum_R sum_nil))) (by decide)) rfl (fun v17 => ?_)
    refine j_iload (q := 130) hx (dc kX12_say_1 14 rfl) 0 rfl rfl ?_
    refine j_iand (q := 131) hx (dc kX12_say_1 15 rfl) rfl ?_
    refine j_iload_n (q := 132) hx (dc kX12_say_1 16 rfl) rfl 4 rfl rfl ?_
    refine j_iconst (q := 133) (v := (2 : Int32)) hx (dc kX12_say_1 17 rfl) (by decide) rfl ?_
    refine j_icmp_geS (q := 136) (tgt := 142) hx (dc kX12_say_1 18 rfl) (by decide) rfl ?_ ?_
    · refine j_iconst (q := 143) (v := (0 : Int32)) hx (dc kX12_say_1 23 rfl) (by decide) rfl ?_
      exact j_sub [1, 2, 3, 4, 0] rfl (hb143 x0 x1 x2 x3 (((1 : Int32) <<< (x2 &&& 31)) ^^^ (-1 : Int32)) x0 x1 (4 : Int32) (v17 &&& (((1 : Int32) <<< (x2 &&& 31)) ^^^ (-1 : Int32))) (0 : Int32) h16)
    · refine j_iconst (q := 137) (v := (1 : Int32)) hx (dc kX12_say_1 19 rfl) (by decide) rfl ?_
      refine j_iload_n (q := 138) hx (dc kX12_say_1 20 rfl) rfl 3 rfl rfl ?_
      refine j_ishl (q := 139) hx (dc kX12_say_1 21 rfl) rfl ?_
      refine j_goto (q := 143) hx (dc kX12_say_1 22 rfl) (by decide) ?_
      exact j_sub [1, 2, 3, 4, 0] rfl (hb143 x0 x1 x2 x3 (((1 : Int32) <<< (x2 &&& 31)) ^^^ (-1 : Int32)) x0 x1 (4 : Int32) (v17 &&& (((1 : Int32) <<< (x2 &&& 31)) ^^^ (-1 : Int32))) ((1 : Int32) <<< (x2 &&& 31)) h16)
  have hb68 : ∀ (x0 : Nat) (x1 : Int32) (x2 : Int32) (x3 : Int32) (t0 : Int32) (h : Hp), J x 68 [(0, vR x.2.2.2 x0), (1, .int x1), (2, .int x2), (3, .int x3)] [.int t0] h (mX12_say_b68 x0 x1 x2 x3 t0 h) (fun r => r = u) := by
    intro x0 x1 x2 x3 t0 h
    unfold mX12_say_b68
    refine j_istore (q := 70) (i := 4) (l2 := [(0, vR x.2.2.2 x0), (1, .int x1), (2, .int x2), (3, .int x3)]) hx (dc kX12_say_0 40 rfl) (hn 4 (by decide)) [0, 1, 2, 3] rfl ⟨⟨show (0 : Nat) ≠ 4 by decide, Or.inl (show (0 : Nat) + 1 ≠ 4 by decide)⟩, ⟨⟨show (1 : Nat) ≠ 4 by decide, Or.inl (show (1 : Nat) + 1 ≠ 4 by decide)⟩, ⟨⟨show (2 : Nat) ≠ 4 by decide, Or.inl (show (2 : Nat) + 1 ≠ 4 by decide)⟩, ⟨⟨show (3 : Nat) ≠ 4 by decide, Or.inr rfl⟩, trivial⟩⟩⟩⟩ rfl ?_
    refine j_iload (q := 72) hx (dc kX12_say_0 41 rfl) 0 rfl rfl ?_
    refine j_iload_n (q := 73) hx (dc kX12_say_0 42 rfl) rfl 4 rfl rfl ?_
    refine j_icmp_neS (q := 76) (tgt := 79) hx (dc kX12_say_0 43 rfl) (by decide) rfl ?_ ?_
    · refine j_iload_n (q := 80) hx (dc kX12_say_0 46 rfl) rfl 4 rfl rfl ?_
      refine j_iconst (q := 81) (v := (2 : Int32)) hx (dc kX12_say_0 47 rfl) (by decide) rfl ?_
      refine j_icmp_geS (q := 84) (tgt := 108) hx (dc kX12_say_0 48 rfl) (by decide) rfl ?_ ?_
      · exact j_sub [1, 2, 3, 4] rfl (hb108 x0 x1 x2 x3 h)
      · refine j_aload_n (q := 85) hx (dc kX12_say_0 49 rfl) rfl 1 rfl rfl ?_
        refine j_iload_n (q := 86) hx (dc kX12_say_0 50 rfl) rfl 3 rfl rfl ?_
        refine w_cVIR (q := 89) (As := [.int x2]) (st := []) hx (dc kX12_say_0 51 rfl) cf12 (by decide) rfl (cI _ my_X12_isKnown lm_X12_326 (by decide)) vs_X12_isKnown rfl (fun u hu => sX12_isKnown _ _ _ _ _ _ hu) (fun e => ite_ne (by unfold mX12_isKnown at e; exact e)) (Nat.zero_le _) rfl (fun v29 => ?_)
        refine j_if_eq (q := 92) (tgt := 108) hx (dc kX12_say_0 52 rfl) (by decide) Iff.rfl rfl ?_ ?_
        · exact j_sub [1, 2, 3, 4] rfl (hb108 x0 x1 x2 x3 h)
        · refine j_aload_n (q := 93) hx (dc kX12_say_0 53 rfl) rfl 1 rfl rfl ?_
          refine w_gR (q := 96) hx (dc kX12_say_0 54 rfl) ff_X12_4 lk_X12_23 rfl (fun v31 => ?_)
          refine j_bipush (q := 98) (v := (8 : Int32)) hx (dc kX12_say_0 55 rfl) (by decide) rfl ?_
          refine j_iload_n (q := 99) hx (dc kX12_say_0 56 rfl) rfl 3 rfl rfl ?_
          refine j_iadd (q := 100) hx (dc kX12_say_0 57 rfl) rfl ?_
          refine j_ldI (q := 101) hx (dc kX12_say_0 58 rfl) rfl (fun v32 => ?_)
          refine j_iload_n (q := 102) hx (dc kX12_say_0 59 rfl) rfl 4 rfl rfl ?_
          refine j_icmp_eq (q := 105) (tgt := 108) hx (dc kX12_say_0 60 rfl) (by decide) Iff.rfl rfl ?_ ?_
          · exact j_sub [1, 2, 3, 4] rfl (hb108 x0 x1 x2 x3 h)
          · refine j_bipush (q := 107) (v := (-4 : Int32)) hx (dc kX12_say_0 61 rfl) (by decide) rfl ?_
            exact r_iW hx hR (dc kX12_say_0 62 rfl)
    · refine j_bipush (q := 78) (v := (-3 : Int32)) hx (dc kX12_say_0 44 rfl) (by decide) rfl ?_
      exact r_iW hx hR (dc kX12_say_0 45 rfl)
  unfold mX12_say
  refine J.ckd fun hck => ?_
  refine j_aload_n (q := 1) hx (dc kX12_say_0 0 rfl) rfl 0 rfl rfl ?_
  refine j_iload_n (q := 2) hx (dc kX12_say_0 1 rfl) rfl 1 rfl rfl ?_
  refine w_cVIR (q := 5) (As := [.int x1]) (st := []) hx (dc kX12_say_0 2 rfl) cf12 (by decide) rfl (cI _ my_X12_isCount lm_X12_380 (by decide)) vs_X12_isCount rfl (fun u hu => sX12_isCount _ _ _ _ _ _ hu) (fun e => ite_ne (by unfold mX12_isCount at e; exact e)) (Nat.zero_le _) rfl (fun v1 => ?_)
  refine j_if_eq (q := 8) (tgt := 25) hx (dc kX12_say_0 3 rfl) (by decide) Iff.rfl rfl ?_ ?_
  · refine j_iconst (q := 26) (v := (-1 : Int32)) hx (dc kX12_say_0 13 rfl) (by decide) rfl ?_
    exact r_iW hx hR (dc kX12_say_0 14 rfl)
  · refine j_aload_n (q := 9) hx (dc kX12_say_0 4 rfl) rfl 0 rfl rfl ?_
    refine j_iload_n (q := 10) hx (dc kX12_say_0 5 rfl) rfl 2 rfl rfl ?_
    refine w_cVIR (q := 13) (As := [.int x2]) (st := []) hx (dc kX12_say_0 6 rfl) cf12 (by decide) rfl (cI _ my_X12_isFact lm_X12_374 (by decide)) vs_X12_isFact rfl (fun u hu => sX12_isFact _ _ _ _ _ _ hu) (fun e => ite_ne (by unfold mX12_isFact at e; exact e)) (Nat.zero_le _) rfl (fun v3 => ?_)
    refine j_if_eq (q := 16) (tgt := 25) hx (dc kX12_say_0 7 rfl) (by decide) Iff.rfl rfl ?_ ?_
    · refine j_iconst (q := 26) (v := (-1 : Int32)) hx (dc kX12_say_0 13 rfl) (by decide) rfl ?_
      exact r_iW hx hR (dc kX12_say_0 14 rfl)
    · refine j_iload_n (q := 17) hx (dc kX12_say_0 8 rfl) rfl 3 rfl rfl ?_
      refine j_iconst (q := 18) (v := (0 : Int32)) hx (dc kX12_say_0 9 rfl) (by decide) rfl ?_
      refine j_iconst (q := 19) (v := (2 : Int32)) hx (dc kX12_say_0 10 rfl) (by decide) rfl ?_
      refine w_cSIR (q := 22) (As := [.int x3, .int (0 : Int32), .int (2 : Int32)]) (st := []) hx (dc kX12_say_0 11 rfl) (cI _ my_X12_in lm_X12_85 (by decide)) st_X12_in rfl (fun u hu => sX12_in _ _ _ _ _ _ _ hu) (Nat.zero_le _) rfl (fun v5 => ?_)
      refine j_if_neS (q := 25) (tgt := 27) hx (dc kX12_say_0 12 rfl) (by decide) rfl ?_ ?_
      · refine j_aload_n (q := 28) hx (dc kX12_say_0 15 rfl) rfl 0 rfl rfl ?_
        refine j_iload_n (q := 29) hx (dc kX12_say_0 16 rfl) rfl 1 rfl rfl ?_
        refine j_bipush (q := 31) (v := (6 : Int32)) hx (dc kX12_say_0 17 rfl) (by decide) rfl ?_
        refine w_cVIR (q := 34) (As := [.int x1, .int (6 : Int32)]) (st := []) hx (dc kX12_say_0 18 rfl) cf12 (by decide) rfl (cI _ my_X12_its lm_X12_339 (by decide)) vs_X12_its rfl (fun u hu => sX12_its _ _ _ _ _ _ _ hu) (fun e => ite_ne (by unfold mX12_its at e; exact e)) (Nat.zero_le _) rfl (fun v7 => ?_)
        refine j_iconst (q := 35) (v := (1 : Int32)) hx (dc kX12_say_0 19 rfl) (by decide) rfl ?_
        refine j_icmp_neS (q := 38) (tgt := 41) hx (dc kX12_say_0 20 rfl) (by decide) rfl ?_ ?_
        · refine j_aload_n (q := 42) hx (dc kX12_say_0 23 rfl) rfl 0 rfl rfl ?_
          refine j_iload_n (q := 43) hx (dc kX12_say_0 24 rfl) rfl 1 rfl rfl ?_
          refine j_iconst (q := 44) (v := (4 : Int32)) hx (dc kX12_say_0 25 rfl) (by decide) rfl ?_
          refine w_cVIR (q := 47) (As := [.int x1, .int (4 : Int32)]) (st := []) hx (dc kX12_say_0 26 rfl) cf12 (by decide) rfl (cI _ my_X12_its lm_X12_339 (by decide)) vs_X12_its rfl (fun u hu => sX12_its _ _ _ _ _ _ _ hu) (fun e => ite_ne (by unfold mX12_its at e; exact e)) (Nat.zero_le _) rfl (fun v9 => ?_)
          refine j_iload_n (q := 48) hx (dc kX12_say_0 27 rfl) rfl 2 rfl rfl ?_
          refine w_cSIR (q := 51) (As := [.int v9, .int x2]) (st := []) hx (dc kX12_say_0 28 rfl) (cI _ my_X12_has lm_X12_239 (by decide)) st_X12_has rfl (fun u hu => sX12_has _ _ _ _ _ _ hu) (Nat.zero_le _) rfl (fun v11 => ?_)
          refine j_if_neS (q := 54) (tgt := 58) hx (dc kX12_say_0 29 rfl) (by decide) rfl ?_ ?_
          · refine j_aload_n (q := 59) hx (dc kX12_say_0 32 rfl) rfl 0 rfl rfl ?_
            refine j_iload_n (q := 60) hx (dc kX12_say_0 33 rfl) rfl 1 rfl rfl ?_
            refine j_iconst (q := 61) (v := (5 : Int32)) hx (dc kX12_say_0 34 rfl) (by decide) rfl ?_
            refine w_cVIR (q := 64) (As := [.int x1, .int (5 : Int32)]) (st := []) hx (dc kX12_say_0 35 rfl) cf12 (by decide) rfl (cI _ my_X12_its lm_X12_339 (by decide)) vs_X12_its rfl (fun u hu => sX12_its _ _ _ _ _ _ _ hu) (fun e => ite_ne (by unfold mX12_its at e; exact e)) (Nat.zero_le _) rfl (fun v13 => ?_)
            refine j_iload_n (q := 65) hx (dc kX12_say_0 36 rfl) rfl 2 rfl rfl ?_
            refine j_ishr (q := 66) hx (dc kX12_say_0 37 rfl) rfl ?_
            refine j_iconst (q := 67) (v := (1 : Int32)) hx (dc kX12_say_0 38 rfl) (by decide) rfl ?_
            refine j_iand (q := 68) hx (dc kX12_say_0 39 rfl) rfl ?_
            exact hb68 x0 x1 x2 x3 ((v13 >>> (x2 &&& 31)) &&& (1 : Int32)) h
          · refine j_iconst (q := 55) (v := (2 : Int32)) hx (dc kX12_say_0 30 rfl) (by decide) rfl ?_
            refine j_goto (q := 68) hx (dc kX12_say_0 31 rfl) (by decide) ?_
            exact hb68 x0 x1 x2 x3 (2 : Int32) h
        · refine j_bipush (q := 40) (v := (-2 : Int32)) hx (dc kX12_say_0 21 rfl) (by decide) rfl ?_
          exact r_iW hx hR (dc kX12_say_0 22 rfl)
      · refine j_iconst (q := 26) (v := (-1 : Int32)) hx (dc kX12_say_0 13 rfl) (by decide) rfl ?_
        exact r_iW hx hR (dc kX12_say_0 14 rfl)

set_option maxHeartbeats 4000000 in
set_option maxRecDepth 100000 in
theorem sX12_add (l : Launch) (w : Wd) (x0 : Nat) (x1 : Int32) (x2 : Int32) (x3 : Int32) (h : Hp) (u : (Int32 × Hp)) (hK : mX12_add x0 x1 x2 x3 h = some u) : M1 l w mi_X12_add 3 [vR w x0, .int x1, .int x2, .int x3] h u.2 (some (.int u.1)) := by
  refine M1.of (own := RX12) (T := fun _ r => r = u) hK (by decide +kernel) rfl (by first | (simp only [lg_lenR, lg_lenI, lg_lenL, lg_len0]; decide) | decide) (fun x hx hnl hhf hl hw hret hnm hQ h0e => ⟨?_, rfl⟩)
  subst hw
  subst hl
  have hR : Rt x h u.2 (some (.int u.1)) ((some .int)) := ⟨h0e, hhf, hret, hQ⟩
  have hn : ∀ i, i < 6 → i < x.2.2.1.1.1 := fun i hi => by rw [hnl]; exact hi
  have e0 : lv_args 0 [vR x.2.2.2 x0, .int x1, .int x2, .int x3] = [(0, vR x.2.2.2 x0), (1, .int x1), (2, .int x2), (3, .int x3)] := by simp only [lv_argsR, lv_argsI, lv_argsL, lv_args0]
  rw [e0]
  have hb74 : ∀ (x0 : Nat) (x1 : Int32) (x2 : Int32) (x3 : Int32) (x4 : Int32) (x5 : Int32) (h : Hp), J x 74 [(0, vR x.2.2.2 x0), (1, .int x1), (2, .int x2), (3, .int x3), (4, .int x4), (5, .int x5)] [] h (mX12_add_l74 x0 x1 x2 x3 x4 x5 h) (fun r => r = u) := by
    intro x0 x1 x2 x3 x4 x5 h
    have hB : ∀ (x5 : Int32) (h : Hp), J x 74 [(0, vR x.2.2.2 x0), (1, .int x1), (2, .int x2), (3, .int x3), (4, .int x4), (5, .int x5)] [] h (mX12_add_l74f x0 x1 x2 x3 x4 x5 h) (TL (S := (Int32 × Hp)) x 74 (fun s => [(0, vR x.2.2.2 x0), (1, .int x1), (2, .int x2), (3, .int x3), (4, .int x4), (5, .int s.1)]) [] (fun s => s.2) (fun r => r = u)) := by
      intro x5 h
      unfold mX12_add_l74f
      refine j_iload (q := 76) hx (dc kX12_add_0 41 rfl) 5 rfl rfl ?_
      refine j_bipush (q := 78) (v := (8 : Int32)) hx (dc kX12_add_0 42 rfl) (by decide) rfl ?_
      refine j_icmp_geS (q := 81) (tgt := 96) hx (dc kX12_add_0 43 rfl) (by decide) rfl ?_ ?_
      · refine j_exit ?_
        refine j_aload_n (q := 97) hx (dc kX12_add_0 51 rfl) rfl 0 rfl rfl ?_
        refine j_iload (q := 99) hx (dc kX12_add_0 52 rfl) 4 rfl rfl ?_
        refine j_iconst (q := 100) (v := (0 : Int32)) hx (dc kX12_add_0 53 rfl) (by decide) rfl ?_
        refine j_aload_n (q := 101) hx (dc kX12_add_0 54 rfl) rfl 0 rfl rfl ?_
        refine j_iload_n (q := 102) hx (dc kX12_add_0 55 rfl) rfl 1 rfl rfl ?_
        refine j_iconst (q := 103) (v := (0 : Int32)) hx (dc kX12_add_0 56 rfl) (by decide) rfl ?_
        refine w_cVIR (q := 106) (As := [.int x1, .int (0 : Int32)]) (st := [.int (0 : Int32), .int x4, vR x.2.2.2 x0]) hx (dc kX12_add_0 57 rfl) cf12 (by decide) rfl (cI _ my_X12_its lm_X12_339 (by decide)) vs_X12_its rfl (fun u hu => sX12_its _ _ _ _ _ _ _ hu) (fun e => ite_ne (by unfold mX12_its at e; exact e)) (sum_le (sum_I (sum_I (sum_R sum_nil))) (by decide)) rfl (fun v16 => ?_)
        refine w_cVVW (q := 109) (As := [.int x4, .int (0 : Int32), .int v16]) (st := []) hx (dc kX12_add_0 58 rfl) cf12 (by decide) rfl (cI _ my_X12_puts lm_X12_283 (by decide)) vs_X12_puts rfl (fun u hu => sX12_puts _ _ _ _ _ _ _ _ hu) (fun e => ite_ne (by unfold mX12_puts at e; exact e)) (Nat.zero_le _) rfl (fun h19 => ?_)
        refine j_aload_n (q := 110) hx (dc kX12_add_0 59 rfl) rfl 0 rfl rfl ?_
        refine j_iload (q := 112) hx (dc kX12_add_0 60 rfl) 4 rfl rfl ?_
        refine j_iconst (q := 113) (v := (1 : Int32)) hx (dc kX12_add_0 61 rfl) (by decide) rfl ?_
        refine j_aload_n (q := 114) hx (dc kX12_add_0 62 rfl) rfl 0 rfl rfl ?_
        refine w_gR (q := 117) hx (dc kX12_add_0 63 rfl) ff_X12_4 lk_X12_23 rfl (fun v20 => ?_)
        refine j_bipush (q := 119) (v := (17 : Int32)) hx (dc kX12_add_1 0 rfl) (by decide) rfl ?_
        refine j_ldI (q := 120) hx (dc kX12_add_1 1 rfl) rfl (fun v21 => ?_)
        refine w_cVVW (q := 123) (As := [.int x4, .int (1 : Int32), .int v21]) (st := []) hx (dc kX12_add_1 2 rfl) cf12 (by decide) rfl (cI _ my_X12_puts lm_X12_283 (by decide)) vs_X12_puts rfl (fun u hu => sX12_puts _ _ _ _ _ _ _ _ hu) (fun e => ite_ne (by unfold mX12_puts at e; exact e)) (Nat.zero_le _) rfl (fun h23 => ?_)
        refine j_aload_n (q := 124) hx (dc kX12_add_1 3 rfl) rfl 0 rfl rfl ?_
        refine j_iload (q := 126) hx (dc kX12_add_1 4 rfl) 4 rfl rfl ?_
        refine j_iconst (q := 127) (v := (2 : Int32)) hx (dc kX12_add_1 5 rfl) (by decide) rfl ?_
        refine j_iload_n (q := 128) hx (dc kX12_add_1 6 rfl) rfl 2 rfl rfl ?_
        refine w_cVVW (q := 131) (As := [.int x4, .int (2 : Int32), .int x2]) (st := []) hx (dc kX12_add_1 7 rfl) cf12 (by decide) rfl (cI _ my_X12_puts lm_X12_283 (by decide)) vs_X12_puts rfl (fun u hu => sX12_puts _ _ _ _ _ _ _ _ hu) (fun e => ite_ne (by unfold mX12_puts at e; exact e)) (Nat.zero_le _) rfl (fun h25 => ?_)
        refine j_aload_n (q := 132) hx (dc kX12_add_1 8 rfl) rfl 0 rfl rfl ?_
        refine j_iload (q := 134) hx (dc kX12_add_1 9 rfl) 4 rfl rfl ?_
        refine j_iconst (q := 135) (v := (3 : Int32)) hx (dc kX12_add_1 10 rfl) (by decide) rfl ?_
        refine j_iload_n (q := 136) hx (dc kX12_add_1 11 rfl) rfl 3 rfl rfl ?_
        refine w_cVVW (q := 139) (As := [.int x4, .int (3 : Int32), .int x3]) (st := []) hx (dc kX12_add_1 12 rfl) cf12 (by decide) rfl (cI _ my_X12_puts lm_X12_283 (by decide)) vs_X12_puts rfl (fun u hu => sX12_puts _ _ _ _ _ _ _ _ hu) (fun e => ite_ne (by unfold mX12_puts at e; exact e)) (Nat.zero_le _) rfl (fun h27 => ?_)
        refine j_aload_n (q := 140) hx (dc kX12_add_1 13 rfl) rfl 0 rfl rfl ?_
        refine j_iload (q := 142) hx (dc kX12_add_1 14 rfl) 4 rfl rfl ?_
        refine j_bipush (q := 144) (v := (7 : Int32)) hx (dc kX12_add_1 15 rfl) (by decide) rfl ?_
        refine j_iload_n (q := 145) hx (dc kX12_add_1 16 rfl) rfl 1 rfl rfl ?_
        refine w_cVVW (q := 148) (As := [.int x4, .int (7 : Int32), .int x1]) (st := []) hx (dc kX12_add_1 17 rfl) cf12 (by decide) rfl (cI _ my_X12_puts lm_X12_283 (by decide)) vs_X12_puts rfl (fun u hu => sX12_puts _ _ _ _ _ _ _ _ hu) (fun e => ite_ne (by unfold mX12_puts at e; exact e)) (Nat.zero_le _) rfl (fun h29 => ?_)
        refine j_iload (q := 150) hx (dc kX12_add_1 18 rfl) 4 rfl rfl ?_
        exact r_iW hx hR (dc kX12_add_1 19 rfl)
      · refine j_aload_n (q := 82) hx (dc kX12_add_0 44 rfl) rfl 0 rfl rfl ?_
        refine j_iload (q := 84) hx (dc kX12_add_0 45 rfl) 4 rfl rfl ?_
        refine j_iload (q := 86) hx (dc kX12_add_0 46 rfl) 5 rfl rfl ?_
        refine j_iconst (q := 87) (v := (0 : Int32)) hx (dc kX12_add_0 47 rfl) (by decide) rfl ?_
        refine w_cVVW (q := 90) (As := [.int x4, .int x5, .int (0 : Int32)]) (st := []) hx (dc kX12_add_0 48 rfl) cf12 (by decide) rfl (cI _ my_X12_puts lm_X12_283 (by decide)) vs_X12_puts rfl (fun u hu => sX12_puts _ _ _ _ _ _ _ _ hu) (fun e => ite_ne (by unfold mX12_puts at e; exact e)) (Nat.zero_le _) rfl (fun h31 => ?_)
        refine j_iinc (q := 93) (l2 := [(0, vR x.2.2.2 x0), (1, .int x1), (2, .int x2), (3, .int x3), (4, .int x4)]) hx (dc kX12_add_0 49 rfl) 5 rfl (v := (1 : Int32)) (by decide) (hn 5 (by decide)) [0, 1, 2, 3, 4] rfl ⟨⟨show (0 : Nat) ≠ 5 by decide, Or.inl (show (0 : Nat) + 1 ≠ 5 by decide)⟩, ⟨⟨show (1 : Nat) ≠ 5 by decide, Or.inl (show (1 : Nat) + 1 ≠ 5 by decide)⟩, ⟨⟨show (2 : Nat) ≠ 5 by decide, Or.inl (show (2 : Nat) + 1 ≠ 5 by decide)⟩, ⟨⟨show (3 : Nat) ≠ 5 by decide, Or.inl (show (3 : Nat) + 1 ≠ 5 by decide)⟩, ⟨⟨show (4 : Nat) ≠ 5 by decide, Or.inr rfl⟩, trivial⟩⟩⟩⟩⟩ rfl ?_
        refine j_goto (q := 74) hx (dc kX12_add_0 50 rfl) (by decide) ?_
        exact j_back [1, 2, 3, 4, 5, 0] ((x5 + (1 : Int32)), h31) rfl rfl
    exact j_loop (S := (Int32 × Hp)) (lvf := fun s => [(0, vR x.2.2.2 x0), (1, .int x1), (2, .int x2), (3, .int x3), (4, .int x4), (5, .int s.1)]) (hpf := fun s => s.2) (f := (fun s : (Int32 × Hp) => mX12_add_l74f x0 x1 x2 x3 x4 s.1 s.2)) (fun s => hB s.1 s.2) (x5, h)
  unfold mX12_add
  refine J.ckd fun hck => ?_
  refine j_aload_n (q := 1) hx (dc kX12_add_0 0 rfl) rfl 0 rfl rfl ?_
  refine j_iload_n (q := 2) hx (dc kX12_add_0 1 rfl) rfl 1 rfl rfl ?_
  refine w_cVIR (q := 5) (As := [.int x1]) (st := []) hx (dc kX12_add_0 2 rfl) cf12 (by decide) rfl (cI _ my_X12_isCount lm_X12_380 (by decide)) vs_X12_isCount rfl (fun u hu => sX12_isCount _ _ _ _ _ _ hu) (fun e => ite_ne (by unfold mX12_isCount at e; exact e)) (Nat.zero_le _) rfl (fun v1 => ?_)
  refine j_if_eq (q := 8) (tgt := 30) hx (dc kX12_add_0 3 rfl) (by decide) Iff.rfl rfl ?_ ?_
  · refine j_iconst (q := 31) (v := (-1 : Int32)) hx (dc kX12_add_0 14 rfl) (by decide) rfl ?_
    exact r_iW hx hR (dc kX12_add_0 15 rfl)
  · refine j_iload_n (q := 9) hx (dc kX12_add_0 4 rfl) rfl 2 rfl rfl ?_
    refine j_iconst (q := 10) (v := (0 : Int32)) hx (dc kX12_add_0 5 rfl) (by decide) rfl ?_
    refine j_sipush (q := 13) (v := (999 : Int32)) hx (dc kX12_add_0 6 rfl) (by decide) rfl ?_
    refine w_cSIR (q := 16) (As := [.int x2, .int (0 : Int32), .int (999 : Int32)]) (st := []) hx (dc kX12_add_0 7 rfl) (cI _ my_X12_in lm_X12_85 (by decide)) st_X12_in rfl (fun u hu => sX12_in _ _ _ _ _ _ _ hu) (Nat.zero_le _) rfl (fun v3 => ?_)
    refine j_if_eq (q := 19) (tgt := 30) hx (dc kX12_add_0 8 rfl) (by decide) Iff.rfl rfl ?_ ?_
    · refine j_iconst (q := 31) (v := (-1 : Int32)) hx (dc kX12_add_0 14 rfl) (by decide) rfl ?_
      exact r_iW hx hR (dc kX12_add_0 15 rfl)
    · refine j_iload_n (q := 20) hx (dc kX12_add_0 9 rfl) rfl 3 rfl rfl ?_
      refine j_iconst (q := 21) (v := (0 : Int32)) hx (dc kX12_add_0 10 rfl) (by decide) rfl ?_
      refine j_sipush (q := 24) (v := (999 : Int32)) hx (dc kX12_add_0 11 rfl) (by decide) rfl ?_
      refine w_cSIR (q := 27) (As := [.int x3, .int (0 : Int32), .int (999 : Int32)]) (st := []) hx (dc kX12_add_0 12 rfl) (cI _ my_X12_in lm_X12_85 (by decide)) st_X12_in rfl (fun u hu => sX12_in _ _ _ _ _ _ _ hu) (Nat.zero_le _) rfl (fun v5 => ?_)
      refine j_if_neS (q := 30) (tgt := 32) hx (dc kX12_add_0 13 rfl) (by decide) rfl ?_ ?_
      · refine j_aload_n (q := 33) hx (dc kX12_add_0 16 rfl) rfl 0 rfl rfl ?_
        refine w_gR (q := 36) hx (dc kX12_add_0 17 rfl) ff_X12_4 lk_X12_23 rfl (fun v7 => ?_)
        refine j_bipush (q := 38) (v := (18 : Int32)) hx (dc kX12_add_0 18 rfl) (by decide) rfl ?_
        refine j_ldI (q := 39) hx (dc kX12_add_0 19 rfl) rfl (fun v8 => ?_)
        refine j_bipush (q := 41) (v := (8 : Int32)) hx (dc kX12_add_0 20 rfl) (by decide) rfl ?_
        refine j_icmp_neS (q := 44) (tgt := 47) hx (dc kX12_add_0 21 rfl) (by decide) rfl ?_ ?_
        · refine j_aload_n (q := 48) hx (dc kX12_add_0 24 rfl) rfl 0 rfl rfl ?_
          refine w_cVVW (q := 51) (As := []) (st := []) hx (dc kX12_add_0 25 rfl) cf12 (by decide) rfl (cI _ my_X12_keepsAct lm_X12_404 (by decide)) vs_X12_keepsAct rfl (fun u hu => sX12_keepsAct _ _ _ _ _ hu) (fun e => ite_ne (by unfold mX12_keepsAct at e; exact e)) (Nat.zero_le _) rfl (fun h10 => ?_)
          refine j_aload_n (q := 52) hx (dc kX12_add_0 26 rfl) rfl 0 rfl rfl ?_
          refine w_gR (q := 55) hx (dc kX12_add_0 27 rfl) ff_X12_4 lk_X12_23 rfl (fun v11 => ?_)
          refine j_bipush (q := 57) (v := (18 : Int32)) hx (dc kX12_add_0 28 rfl) (by decide) rfl ?_
          refine j_ldI (q := 58) hx (dc kX12_add_0 29 rfl) rfl (fun v12 => ?_)
          refine j_istore (q := 60) (i := 4) (l2 := [(0, vR x.2.2.2 x0), (1, .int x1), (2, .int x2), (3, .int x3)]) hx (dc kX12_add_0 30 rfl) (hn 4 (by decide)) [0, 1, 2, 3] rfl ⟨⟨show (0 : Nat) ≠ 4 by decide, Or.inl (show (0 : Nat) + 1 ≠ 4 by decide)⟩, ⟨⟨show (1 : Nat) ≠ 4 by decide, Or.inl (show (1 : Nat) + 1 ≠ 4 by decide)⟩, ⟨⟨show (2 : Nat) ≠ 4 by decide, Or.inl (show (2 : Nat) + 1 ≠ 4 by decide)⟩, ⟨⟨show (3 : Nat) ≠ 4 by decide, Or.inr rfl⟩, trivial⟩⟩⟩⟩ rfl ?_
          refine j_aload_n (q := 61) hx (dc kX12_add_0 31 rfl) rfl 1 rfl rfl ?_
          refine w_gR (q := 64) hx (dc kX12_add_0 32 rfl) ff_X12_4 lk_X12_23 rfl (fun v13 => ?_)
          refine j_bipush (q := 66) (v := (18 : Int32)) hx (dc kX12_add_0 33 rfl) (by decide) rfl ?_
          refine j_dup2_11 (q := 67) hx (dc kX12_add_0 34 rfl) rfl (vR_cat _ _) rfl ?_
          refine j_ldI (q := 68) hx (dc kX12_add_0 35 rfl) rfl (fun v14 => ?_)
          refine j_iconst (q := 69) (v := (1 : Int32)) hx (dc kX12_add_0 36 rfl) (by decide) rfl ?_
          refine j_iadd (q := 70) hx (dc kX12_add_0 37 rfl) rfl ?_
          refine w_stI (q := 71) hx (dc kX12_add_0 38 rfl) rfl (fun h15 => ?_)
          refine j_iconst (q := 72) (v := (0 : Int32)) hx (dc kX12_add_0 39 rfl) (by decide) rfl ?_
          refine j_istore (q := 74) (i := 5) (l2 := [(4, .int v12), (0, vR x.2.2.2 x0), (1, .int x1), (2, .int x2), (3, .int x3)]) hx (dc kX12_add_0 40 rfl) (hn 5 (by decide)) [0, 1, 2, 3, 4] rfl ⟨⟨show (4 : Nat) ≠ 5 by decide, Or.inr rfl⟩, ⟨⟨show (0 : Nat) ≠ 5 by decide, Or.inl (show (0 : Nat) + 1 ≠ 5 by decide)⟩, ⟨⟨show (1 : Nat) ≠ 5 by decide, Or.inl (show (1 : Nat) + 1 ≠ 5 by decide)⟩, ⟨⟨show (2 : Nat) ≠ 5 by decide, Or.inl (show (2 : Nat) + 1 ≠ 5 by decide)⟩, ⟨⟨show (3 : Nat) ≠ 5 by decide, Or.inl (show (3 : Nat) + 1 ≠ 5 by decide)⟩, trivial⟩⟩⟩⟩⟩ rfl ?_
          exact j_sub [2, 3, 4, 5, 1, 0] rfl (hb74 x0 x1 x2 x3 v12 (0 : Int32) h15)
        · refine j_bipush (q := 46) (v := (-2 : Int32)) hx (dc kX12_add_0 22 rfl) (by decide) rfl ?_
          exact r_iW hx hR (dc kX12_add_0 23 rfl)
      · refine j_iconst (q := 31) (v := (-1 : Int32)) hx (dc kX12_add_0 14 rfl) (by decide) rfl ?_
        exact r_iW hx hR (dc kX12_add_0 15 rfl)

set_option maxHeartbeats 4000000 in
set_option maxRecDepth 100000 in
theorem sX12_strike (l : Launch) (w : Wd) (x0 : Nat) (x1 : Int32) (h : Hp) (u : (Int32 × Hp)) (hK : mX12_strike x0 x1 h = some u) : M1 l w mi_X12_strike 3 [vR w x0, .int x1] h u.2 (some (.int u.1)) := by
  refine M1.of (own := RX12) (T := fun _ r => r = u) hK (by decide +kernel) rfl (by first | (simp only [lg_lenR, lg_lenI, lg_lenL, lg_len0]; decide) | decide) (fun x hx hnl hhf hl hw hret hnm hQ h0e => ⟨?_, rfl⟩)
  subst hw
  subst hl
  have hR : Rt x h u.2 (some (.int u.1)) ((some .int)) := ⟨h0e, hhf, hret, hQ⟩
  have hn : ∀ i, i < 4 → i < x.2.2.1.1.1 := fun i hi => by rw [hnl]; exact hi
  have e0 : lv_args 0 [vR x.2.2.2 x0, .int x1] = [(0, vR x.2.2.2 x0), (1, .int x1)] := by simp only [lv_argsR, lv_argsI, lv_argsL, lv_args0]
  rw [e0]
  have hb40 : ∀ (x0 : Nat) (x2 : Int32) (x3 : Int32) (h : Hp), J x 40 [(0, vR x.2.2.2 x0), (2, .int x2), (3, .int x3)] [] h (mX12_strike_l40 x0 x2 x3 h) (fun r => r = u) := by
    intro x0 x2 x3 h
    have hB : ∀ (x2 : Int32) (x3 : Int32), J x 40 [(0, vR x.2.2.2 x0), (2, .int x2), (3, .int x3)] [] h (mX12_strike_l40f x0 h x2 x3) (TL (S := (Int32 × Int32)) x 40 (fun s => [(0, vR x.2.2.2 x0), (2, .int s.1), (3, .int s.2)]) [] (fun s => h) (fun r => r = u)) := by
      intro x2 x3
      unfold mX12_strike_l40f
      refine j_iload_n (q := 41) hx (dc kX12_strike_0 25 rfl) rfl 2 rfl rfl ?_
      refine j_aload_n (q := 42) hx (dc kX12_strike_0 26 rfl) rfl 0 rfl rfl ?_
      refine w_gR (q := 45) hx (dc kX12_strike_0 27 rfl) ff_X12_4 lk_X12_23 rfl (fun v9 => ?_)
      refine j_bipush (q := 47) (v := (18 : Int32)) hx (dc kX12_strike_0 28 rfl) (by decide) rfl ?_
      refine j_ldI (q := 48) hx (dc kX12_strike_0 29 rfl) rfl (fun v10 => ?_)
      refine j_icmp_geS (q := 51) (tgt := 69) hx (dc kX12_strike_0 30 rfl) (by decide) rfl ?_ ?_
      · refine j_exit ?_
        refine j_iload_n (q := 70) hx (dc kX12_strike_0 42 rfl) rfl 1 rfl rfl ?_
        exact r_iW hx hR (dc kX12_strike_0 43 rfl)
      · refine j_iload_n (q := 52) hx (dc kX12_strike_0 31 rfl) rfl 1 rfl rfl ?_
        refine j_iconst (q := 53) (v := (1 : Int32)) hx (dc kX12_strike_0 32 rfl) (by decide) rfl ?_
        refine j_aload_n (q := 54) hx (dc kX12_strike_0 33 rfl) rfl 0 rfl rfl ?_
        refine j_iload_n (q := 55) hx (dc kX12_strike_0 34 rfl) rfl 2 rfl rfl ?_
        refine j_bipush (q := 57) (v := (6 : Int32)) hx (dc kX12_strike_0 35 rfl) (by decide) rfl ?_
        refine w_cVIR (q := 60) (As := [.int x3, .int (6 : Int32)]) (st := [.int (1 : Int32), .int x2]) hx (dc kX12_strike_0 36 rfl) cf12 (by decide) rfl (cI _ my_X12_its lm_X12_339 (by decide)) vs_X12_its rfl (fun u hu => sX12_its _ _ _ _ _ _ _ hu) (fun e => ite_ne (by unfold mX12_its at e; exact e)) (sum_le (sum_I (sum_I sum_nil)) (by decide)) rfl (fun v11 => ?_)
        refine j_isub (q := 61) hx (dc kX12_strike_0 37 rfl) rfl ?_
        refine j_iadd (q := 62) hx (dc kX12_strike_0 38 rfl) rfl ?_
        refine j_istore_n (q := 63) (i := 2) (l2 := [(0, vR x.2.2.2 x0), (3, .int x3)]) hx (dc kX12_strike_0 39 rfl) rfl (hn 2 (by decide)) [0, 2] rfl ⟨⟨show (0 : Nat) ≠ 2 by decide, Or.inl (show (0 : Nat) + 1 ≠ 2 by decide)⟩, ⟨⟨show (3 : Nat) ≠ 2 by decide, Or.inl (show (3 : Nat) + 1 ≠ 2 by decide)⟩, trivial⟩⟩ rfl ?_
        refine j_iinc (q := 66) (l2 := [(2, .int (x2 + ((1 : Int32) - v11))), (0, vR x.2.2.2 x0)]) hx (dc kX12_strike_0 40 rfl) 2 rfl (v := (1 : Int32)) (by decide) (hn 3 (by decide)) [0, 1] rfl ⟨⟨show (2 : Nat) ≠ 3 by decide, Or.inr rfl⟩, ⟨⟨show (0 : Nat) ≠ 3 by decide, Or.inl (show (0 : Nat) + 1 ≠ 3 by decide)⟩, trivial⟩⟩ rfl ?_
        refine j_goto (q := 40) hx (dc kX12_strike_0 41 rfl) (by decide) ?_
        exact j_back [2, 1, 0] ((x2 + ((1 : Int32) - v11)), (x3 + (1 : Int32))) rfl rfl
    exact j_loop (S := (Int32 × Int32)) (lvf := fun s => [(0, vR x.2.2.2 x0), (2, .int s.1), (3, .int s.2)]) (hpf := fun s => h) (f := (fun s : (Int32 × Int32) => mX12_strike_l40f x0 h s.1 s.2)) (fun s => hB s.1 s.2) (x2, x3)
  unfold mX12_strike
  refine J.ckd fun hck => ?_
  refine j_aload_n (q := 1) hx (dc kX12_strike_0 0 rfl) rfl 0 rfl rfl ?_
  refine j_iload_n (q := 2) hx (dc kX12_strike_0 1 rfl) rfl 1 rfl rfl ?_
  refine w_cVIR (q := 5) (As := [.int x1]) (st := []) hx (dc kX12_strike_0 2 rfl) cf12 (by decide) rfl (cI _ my_X12_isCount lm_X12_380 (by decide)) vs_X12_isCount rfl (fun u hu => sX12_isCount _ _ _ _ _ _ hu) (fun e => ite_ne (by unfold mX12_isCount at e; exact e)) (Nat.zero_le _) rfl (fun v1 => ?_)
  refine j_if_neS (q := 8) (tgt := 10) hx (dc kX12_strike_0 3 rfl) (by decide) rfl ?_ ?_
  · refine j_aload_n (q := 11) hx (dc kX12_strike_0 6 rfl) rfl 0 rfl rfl ?_
    refine j_iload_n (q := 12) hx (dc kX12_strike_0 7 rfl) rfl 1 rfl rfl ?_
    refine j_bipush (q := 14) (v := (6 : Int32)) hx (dc kX12_strike_0 8 rfl) (by decide) rfl ?_
    refine w_cVIR (q := 17) (As := [.int x1, .int (6 : Int32)]) (st := []) hx (dc kX12_strike_0 9 rfl) cf12 (by decide) rfl (cI _ my_X12_its lm_X12_339 (by decide)) vs_X12_its rfl (fun u hu => sX12_its _ _ _ _ _ _ _ hu) (fun e => ite_ne (by unfold mX12_its at e; exact e)) (Nat.zero_le _) rfl (fun v3 => ?_)
    refine j_iconst (q := 18) (v := (1 : Int32)) hx (dc kX12_strike_0 10 rfl) (by decide) rfl ?_
    refine j_icmp_neS (q := 21) (tgt := 24) hx (dc kX12_strike_0 11 rfl) (by decide) rfl ?_ ?_
    · refine j_aload_n (q := 25) hx (dc kX12_strike_0 14 rfl) rfl 0 rfl rfl ?_
      refine w_cVVW (q := 28) (As := []) (st := []) hx (dc kX12_strike_0 15 rfl) cf12 (by decide) rfl (cI _ my_X12_keepsAct lm_X12_404 (by decide)) vs_X12_keepsAct rfl (fun u hu => sX12_keepsAct _ _ _ _ _ hu) (fun e => ite_ne (by unfold mX12_keepsAct at e; exact e)) (Nat.zero_le _) rfl (fun h6 => ?_)
      refine j_aload_n (q := 29) hx (dc kX12_strike_0 16 rfl) rfl 0 rfl rfl ?_
      refine j_iload_n (q := 30) hx (dc kX12_strike_0 17 rfl) rfl 1 rfl rfl ?_
      refine j_bipush (q := 32) (v := (6 : Int32)) hx (dc kX12_strike_0 18 rfl) (by decide) rfl ?_
      refine j_iconst (q := 33) (v := (1 : Int32)) hx (dc kX12_strike_0 19 rfl) (by decide) rfl ?_
      refine w_cVVW (q := 36) (As := [.int x1, .int (6 : Int32), .int (1 : Int32)]) (st := []) hx (dc kX12_strike_0 20 rfl) cf12 (by decide) rfl (cI _ my_X12_puts lm_X12_283 (by decide)) vs_X12_puts rfl (fun u hu => sX12_puts _ _ _ _ _ _ _ _ hu) (fun e => ite_ne (by unfold mX12_puts at e; exact e)) (Nat.zero_le _) rfl (fun h8 => ?_)
      refine j_iconst (q := 37) (v := (0 : Int32)) hx (dc kX12_strike_0 21 rfl) (by decide) rfl ?_
      refine j_istore_n (q := 38) (i := 2) (l2 := [(0, vR x.2.2.2 x0)]) hx (dc kX12_strike_0 22 rfl) rfl (hn 2 (by decide)) [0] rfl ⟨⟨show (0 : Nat) ≠ 2 by decide, Or.inl (show (0 : Nat) + 1 ≠ 2 by decide)⟩, trivial⟩ rfl ?_
      refine j_iconst (q := 39) (v := (0 : Int32)) hx (dc kX12_strike_0 23 rfl) (by decide) rfl ?_
      refine j_istore_n (q := 40) (i := 3) (l2 := [(2, .int (0 : Int32)), (0, vR x.2.2.2 x0)]) hx (dc kX12_strike_0 24 rfl) rfl (hn 3 (by decide)) [0, 1] rfl ⟨⟨show (2 : Nat) ≠ 3 by decide, Or.inr rfl⟩, ⟨⟨show (0 : Nat) ≠ 3 by decide, Or.inl (show (0 : Nat) + 1 ≠ 3 by decide)⟩, trivial⟩⟩ rfl ?_
      exact j_sub [2, 1, 0] rfl (hb40 x0 (0 : Int32) (0 : Int32) h8)
    · refine j_bipush (q := 23) (v := (-2 : Int32)) hx (dc kX12_strike_0 12 rfl) (by decide) rfl ?_
      exact r_iW hx hR (dc kX12_strike_0 13 rfl)
  · refine j_iconst (q := 9) (v := (-1 : Int32)) hx (dc kX12_strike_0 4 rfl) (by decide) rfl ?_
    exact r_iW hx hR (dc kX12_strike_0 5 rfl)

set_option maxHeartbeats 4000000 in
set_option maxRecDepth 100000 in
theorem sX12_days (l : Launch) (w : Wd) (x0 : Nat) (x1 : Int32) (h : Hp) (u : (Int32 × Hp)) (hK : mX12_days x0 x1 h = some u) : M1 l w mi_X12_days 2 [vR w x0, .int x1] h u.2 (some (.int u.1)) := by
  refine M1.of (own := RX12) (T := fun _ r => r = u) hK (by decide +kernel) rfl (by first | (simp only [lg_lenR, lg_lenI, lg_lenL, lg_len0]; decide) | decide) (fun x hx hnl hhf hl hw hret hnm hQ h0e => ⟨?_, rfl⟩)
  subst hw
  subst hl
  have hR : Rt x h u.2 (some (.int u.1)) ((some .int)) := ⟨h0e, hhf, hret, hQ⟩
  have hn : ∀ i, i < 2 → i < x.2.2.1.1.1 := fun i hi => by rw [hnl]; exact hi
  have e0 : lv_args 0 [vR x.2.2.2 x0, .int x1] = [(0, vR x.2.2.2 x0), (1, .int x1)] := by simp only [lv_argsR, lv_argsI, lv_argsL, lv_args0]
  rw [e0]
  unfold mX12_days
  refine J.ckd fun hck => ?_
  refine j_iload_n (q := 1) hx (dc kX12_days_0 0 rfl) rfl 1 rfl rfl ?_
  refine j_iconst (q := 2) (v := (1 : Int32)) hx (dc kX12_days_0 1 rfl) (by decide) rfl ?_
  refine j_sipush (q := 5) (v := (999 : Int32)) hx (dc kX12_days_0 2 rfl) (by decide) rfl ?_
  refine w_cSIR (q := 8) (As := [.int x1, .int (1 : Int32), .int (999 : Int32)]) (st := []) hx (dc kX12_days_0 3 rfl) (cI _ my_X12_in lm_X12_85 (by decide)) st_X12_in rfl (fun u hu => sX12_in _ _ _ _ _ _ _ hu) (Nat.zero_le _) rfl (fun v1 => ?_)
  refine j_if_neS (q := 11) (tgt := 13) hx (dc kX12_days_0 4 rfl) (by decide) rfl ?_ ?_
  · refine j_aload_n (q := 14) hx (dc kX12_days_0 7 rfl) rfl 0 rfl rfl ?_
    refine w_gR (q := 17) hx (dc kX12_days_0 8 rfl) ff_X12_4 lk_X12_23 rfl (fun v3 => ?_)
    refine j_bipush (q := 19) (v := (17 : Int32)) hx (dc kX12_days_0 9 rfl) (by decide) rfl ?_
    refine j_ldI (q := 20) hx (dc kX12_days_0 10 rfl) rfl (fun v4 => ?_)
    refine j_iload_n (q := 21) hx (dc kX12_days_0 11 rfl) rfl 1 rfl rfl ?_
    refine j_iadd (q := 22) hx (dc kX12_days_0 12 rfl) rfl ?_
    refine j_sipush (q := 25) (v := (9999 : Int32)) hx (dc kX12_days_0 13 rfl) (by decide) rfl ?_
    refine j_icmp_leS (q := 28) (tgt := 31) hx (dc kX12_days_0 14 rfl) (by decide) rfl ?_ ?_
    · refine j_aload_n (q := 32) hx (dc kX12_days_0 17 rfl) rfl 0 rfl rfl ?_
      refine w_cVVW (q := 35) (As := []) (st := []) hx (dc kX12_days_0 18 rfl) cf12 (by decide) rfl (cI _ my_X12_keepsAct lm_X12_404 (by decide)) vs_X12_keepsAct rfl (fun u hu => sX12_keepsAct _ _ _ _ _ hu) (fun e => ite_ne (by unfold mX12_keepsAct at e; exact e)) (Nat.zero_le _) rfl (fun h6 => ?_)
      refine j_aload_n (q := 36) hx (dc kX12_days_0 19 rfl) rfl 0 rfl rfl ?_
      refine w_gR (q := 39) hx (dc kX12_days_0 20 rfl) ff_X12_4 lk_X12_23 rfl (fun v7 => ?_)
      refine j_bipush (q := 41) (v := (17 : Int32)) hx (dc kX12_days_0 21 rfl) (by decide) rfl ?_
      refine j_dup2_11 (q := 42) hx (dc kX12_days_0 22 rfl) rfl (vR_cat _ _) rfl ?_
      refine j_ldI (q := 43) hx (dc kX12_days_0 23 rfl) rfl (fun v8 => ?_)
      refine j_iload_n (q := 44) hx (dc kX12_days_0 24 rfl) rfl 1 rfl rfl ?_
      refine j_iadd (q := 45) hx (dc kX12_days_0 25 rfl) rfl ?_
      refine w_stI (q := 46) hx (dc kX12_days_0 26 rfl) rfl (fun h9 => ?_)
      refine j_aload_n (q := 47) hx (dc kX12_days_0 27 rfl) rfl 0 rfl rfl ?_
      refine w_gR (q := 50) hx (dc kX12_days_0 28 rfl) ff_X12_4 lk_X12_23 rfl (fun v10 => ?_)
      refine j_bipush (q := 52) (v := (17 : Int32)) hx (dc kX12_days_0 29 rfl) (by decide) rfl ?_
      refine j_ldI (q := 53) hx (dc kX12_days_0 30 rfl) rfl (fun v11 => ?_)
      exact r_iW hx hR (dc kX12_days_0 31 rfl)
    · refine j_bipush (q := 30) (v := (-2 : Int32)) hx (dc kX12_days_0 15 rfl) (by decide) rfl ?_
      exact r_iW hx hR (dc kX12_days_0 16 rfl)
  · refine j_iconst (q := 12) (v := (-1 : Int32)) hx (dc kX12_days_0 5 rfl) (by decide) rfl ?_
    exact r_iW hx hR (dc kX12_days_0 6 rfl)

set_option maxHeartbeats 4000000 in
set_option maxRecDepth 100000 in
theorem sX12_undo (l : Launch) (w : Wd) (x0 : Nat) (h : Hp) (u : (Int32 × Hp)) (hK : mX12_undo x0 h = some u) : M1 l w mi_X12_undo 4 [vR w x0] h u.2 (some (.int u.1)) := by
  refine M1.of (own := RX12) (T := fun _ r => r = u) hK (by decide +kernel) rfl (by first | (simp only [lg_lenR, lg_lenI, lg_lenL, lg_len0]; decide) | decide) (fun x hx hnl hhf hl hw hret hnm hQ h0e => ⟨?_, rfl⟩)
  subst hw
  subst hl
  have hR : Rt x h u.2 (some (.int u.1)) ((some .int)) := ⟨h0e, hhf, hret, hQ⟩
  have hn : ∀ i, i < 2 → i < x.2.2.1.1.1 := fun i hi => by rw [hnl]; exact hi
  have e0 : lv_args 0 [vR x.2.2.2 x0] = [(0, vR x.2.2.2 x0)] := by simp only [lv_argsR, lv_argsI, lv_argsL, lv_args0]
  rw [e0]
  have hb21 : ∀ (x0 : Nat) (x1 : Int32) (h : Hp), J x 21 [(0, vR x.2.2.2 x0), (1, .int x1)] [] h (mX12_undo_l21 x0 x1 h) (fun r => r = u) := by
    intro x0 x1 h
    have hB : ∀ (x1 : Int32) (h : Hp), J x 21 [(0, vR x.2.2.2 x0), (1, .int x1)] [] h (mX12_undo_l21f x0 x1 h) (TL (S := (Int32 × Hp)) x 21 (fun s => [(0, vR x.2.2.2 x0), (1, .int s.1)]) [] (fun s => s.2) (fun r => r = u)) := by
      intro x1 h
      unfold mX12_undo_l21f
      refine j_iload_n (q := 22) hx (dc kX12_undo_0 13 rfl) rfl 1 rfl rfl ?_
      refine j_bipush (q := 24) (v := (83 : Int32)) hx (dc kX12_undo_0 14 rfl) (by decide) rfl ?_
      refine j_icmp_geS (q := 27) (tgt := 53) hx (dc kX12_undo_0 15 rfl) (by decide) rfl ?_ ?_
      · refine j_exit ?_
        refine j_aload_n (q := 54) hx (dc kX12_undo_0 31 rfl) rfl 0 rfl rfl ?_
        refine w_cVVW (q := 57) (As := []) (st := []) hx (dc kX12_undo_0 32 rfl) cf12 (by decide) rfl (cI _ my_X12_laysKnown lm_X12_308 (by decide)) vs_X12_laysKnown rfl (fun u hu => sX12_laysKnown _ _ _ _ _ hu) (fun e => ite_ne (by unfold mX12_laysKnown at e; exact e)) (Nat.zero_le _) rfl (fun h5 => ?_)
        refine j_aload_n (q := 58) hx (dc kX12_undo_0 33 rfl) rfl 0 rfl rfl ?_
        refine w_gI (q := 61) hx (dc kX12_undo_0 34 rfl) ff_X12_8 lk_X12_287 rfl (fun v6 => ?_)
        exact r_iW hx hR (dc kX12_undo_0 35 rfl)
      · refine j_aload_n (q := 28) hx (dc kX12_undo_0 16 rfl) rfl 0 rfl rfl ?_
        refine w_gR (q := 31) hx (dc kX12_undo_0 17 rfl) ff_X12_4 lk_X12_23 rfl (fun v7 => ?_)
        refine j_iload_n (q := 32) hx (dc kX12_undo_0 18 rfl) rfl 1 rfl rfl ?_
        refine j_aload_n (q := 33) hx (dc kX12_undo_0 19 rfl) rfl 0 rfl rfl ?_
        refine w_gR (q := 36) hx (dc kX12_undo_0 20 rfl) ff_X12_5 lk_X12_26 rfl (fun v8 => ?_)
        refine j_bipush (q := 38) (v := (83 : Int32)) hx (dc kX12_undo_0 21 rfl) (by decide) rfl ?_
        refine j_aload_n (q := 39) hx (dc kX12_undo_0 22 rfl) rfl 0 rfl rfl ?_
        refine w_gI (q := 42) hx (dc kX12_undo_0 23 rfl) ff_X12_8 lk_X12_287 rfl (fun v9 => ?_)
        refine j_imul (q := 43) hx (dc kX12_undo_0 24 rfl) rfl ?_
        refine j_iload_n (q := 44) hx (dc kX12_undo_0 25 rfl) rfl 1 rfl rfl ?_
        refine j_iadd (q := 45) hx (dc kX12_undo_0 26 rfl) rfl ?_
        refine j_ldI (q := 46) hx (dc kX12_undo_0 27 rfl) rfl (fun v10 => ?_)
        refine w_stI (q := 47) hx (dc kX12_undo_0 28 rfl) rfl (fun h11 => ?_)
        refine j_iinc (q := 50) (l2 := [(0, vR x.2.2.2 x0)]) hx (dc kX12_undo_0 29 rfl) 1 rfl (v := (1 : Int32)) (by decide) (hn 1 (by decide)) [0] rfl ⟨⟨show (0 : Nat) ≠ 1 by decide, Or.inr (vR_cat _ _)⟩, trivial⟩ rfl ?_
        refine j_goto (q := 21) hx (dc kX12_undo_0 30 rfl) (by decide) ?_
        exact j_back [1, 0] ((x1 + (1 : Int32)), h11) rfl rfl
    exact j_loop (S := (Int32 × Hp)) (lvf := fun s => [(0, vR x.2.2.2 x0), (1, .int s.1)]) (hpf := fun s => s.2) (f := (fun s : (Int32 × Hp) => mX12_undo_l21f x0 s.1 s.2)) (fun s => hB s.1 s.2) (x1, h)
  unfold mX12_undo
  refine J.ckd fun hck => ?_
  refine j_aload_n (q := 1) hx (dc kX12_undo_0 0 rfl) rfl 0 rfl rfl ?_
  refine w_gI (q := 4) hx (dc kX12_undo_0 1 rfl) ff_X12_8 lk_X12_287 rfl (fun v1 => ?_)
  refine j_if_neS (q := 7) (tgt := 9) hx (dc kX12_undo_0 2 rfl) (by decide) rfl ?_ ?_
  · refine j_aload_n (q := 10) hx (dc kX12_undo_0 5 rfl) rfl 0 rfl rfl ?_
    refine j_dup (q := 11) hx (dc kX12_undo_0 6 rfl) (vR_cat _ _) rfl ?_
    refine w_gI (q := 14) hx (dc kX12_undo_0 7 rfl) ff_X12_8 lk_X12_287 rfl (fun v2 => ?_)
    refine j_iconst (q := 15) (v := (1 : Int32)) hx (dc kX12_undo_0 8 rfl) (by decide) rfl ?_
    refine j_isub (q := 16) hx (dc kX12_undo_0 9 rfl) rfl ?_
    refine w_sI (q := 19) hx (dc kX12_undo_0 10 rfl) ff_X12_8 rfl lk_X12_287 (Or.inl rfl) rfl (fun h3 => ?_)
    refine j_iconst (q := 20) (v := (0 : Int32)) hx (dc kX12_undo_0 11 rfl) (by decide) rfl ?_
    refine j_istore_n (q := 21) (i := 1) (l2 := [(0, vR x.2.2.2 x0)]) hx (dc kX12_undo_0 12 rfl) rfl (hn 1 (by decide)) [0] rfl ⟨⟨show (0 : Nat) ≠ 1 by decide, Or.inr (vR_cat _ _)⟩, trivial⟩ rfl ?_
    exact j_sub [1, 0] rfl (hb21 x0 (0 : Int32) h3)
  · refine j_iconst (q := 8) (v := (-1 : Int32)) hx (dc kX12_undo_0 3 rfl) (by decide) rfl ?_
    exact r_iW hx hR (dc kX12_undo_0 4 rfl)

set_option maxHeartbeats 4000000 in
set_option maxRecDepth 100000 in
theorem sX12_keep (l : Launch) (w : Wd) (x0 : Nat) (x1 : Int32) (h : Hp) (u : (Int32 × Hp)) (hK : mX12_keep x0 x1 h = some u) : M1 l w mi_X12_keep 2 [vR w x0, .int x1] h u.2 (some (.int u.1)) := by
  refine M1.of (own := RX12) (T := fun _ r => r = u) hK (by decide +kernel) rfl (by first | (simp only [lg_lenR, lg_lenI, lg_lenL, lg_len0]; decide) | decide) (fun x hx hnl hhf hl hw hret hnm hQ h0e => ⟨?_, rfl⟩)
  subst hw
  subst hl
  have hR : Rt x h u.2 (some (.int u.1)) ((some .boolean)) := ⟨h0e, hhf, hret, hQ⟩
  have hn : ∀ i, i < 3 → i < x.2.2.1.1.1 := fun i hi => by rw [hnl]; exact hi
  have e0 : lv_args 0 [vR x.2.2.2 x0, .int x1] = [(0, vR x.2.2.2 x0), (1, .int x1)] := by simp only [lv_argsR, lv_argsI, lv_argsL, lv_args0]
  rw [e0]
  have hb20 : ∀ (x0 : Nat) (x1 : Int32) (x2 : Int32) (h : Hp), J x 20 [(0, vR x.2.2.2 x0), (1, .int x1), (2, .int x2)] [] h (mX12_keep_l20 x0 x1 x2 h) (fun r => r = u) := by
    intro x0 x1 x2 h
    have hB : ∀ (x2 : Int32) (h : Hp), J x 20 [(0, vR x.2.2.2 x0), (1, .int x1), (2, .int x2)] [] h (mX12_keep_l20f x0 x1 x2 h) (TL (S := (Int32 × Hp)) x 20 (fun s => [(0, vR x.2.2.2 x0), (1, .int x1), (2, .int s.1)]) [] (fun s => s.2) (fun r => r = u)) := by
      intro x2 h
      unfold mX12_keep_l20f
      refine j_iload_n (q := 21) hx (dc kX12_keep_0 14 rfl) rfl 2 rfl rfl ?_
      refine j_bipush (q := 23) (v := (83 : Int32)) hx (dc kX12_keep_0 15 rfl) (by decide) rfl ?_
      refine j_icmp_geS (q := 26) (tgt := 49) hx (dc kX12_keep_0 16 rfl) (by decide) rfl ?_ ?_
      · refine j_exit ?_
        refine j_iconst (q := 50) (v := (1 : Int32)) hx (dc kX12_keep_0 31 rfl) (by decide) rfl ?_
        exact r_cW hx (Or.inr rfl) hR (dc kX12_keep_0 32 rfl)
      · refine j_aload_n (q := 27) hx (dc kX12_keep_0 17 rfl) rfl 0 rfl rfl ?_
        refine w_gR (q := 30) hx (dc kX12_keep_0 18 rfl) ff_X12_6 lk_X12_29 rfl (fun v5 => ?_)
        refine j_bipush (q := 32) (v := (83 : Int32)) hx (dc kX12_keep_0 19 rfl) (by decide) rfl ?_
        refine j_iload_n (q := 33) hx (dc kX12_keep_0 20 rfl) rfl 1 rfl rfl ?_
        refine j_imul (q := 34) hx (dc kX12_keep_0 21 rfl) rfl ?_
        refine j_iload_n (q := 35) hx (dc kX12_keep_0 22 rfl) rfl 2 rfl rfl ?_
        refine j_iadd (q := 36) hx (dc kX12_keep_0 23 rfl) rfl ?_
        refine j_aload_n (q := 37) hx (dc kX12_keep_0 24 rfl) rfl 0 rfl rfl ?_
        refine w_gR (q := 40) hx (dc kX12_keep_0 25 rfl) ff_X12_4 lk_X12_23 rfl (fun v6 => ?_)
        refine j_iload_n (q := 41) hx (dc kX12_keep_0 26 rfl) rfl 2 rfl rfl ?_
        refine j_ldI (q := 42) hx (dc kX12_keep_0 27 rfl) rfl (fun v7 => ?_)
        refine w_stI (q := 43) hx (dc kX12_keep_0 28 rfl) rfl (fun h8 => ?_)
        refine j_iinc (q := 46) (l2 := [(0, vR x.2.2.2 x0), (1, .int x1)]) hx (dc kX12_keep_0 29 rfl) 2 rfl (v := (1 : Int32)) (by decide) (hn 2 (by decide)) [0, 1] rfl ⟨⟨show (0 : Nat) ≠ 2 by decide, Or.inl (show (0 : Nat) + 1 ≠ 2 by decide)⟩, ⟨⟨show (1 : Nat) ≠ 2 by decide, Or.inr rfl⟩, trivial⟩⟩ rfl ?_
        refine j_goto (q := 20) hx (dc kX12_keep_0 30 rfl) (by decide) ?_
        exact j_back [1, 2, 0] ((x2 + (1 : Int32)), h8) rfl rfl
    exact j_loop (S := (Int32 × Hp)) (lvf := fun s => [(0, vR x.2.2.2 x0), (1, .int x1), (2, .int s.1)]) (hpf := fun s => s.2) (f := (fun s : (Int32 × Hp) => mX12_keep_l20f x0 x1 s.1 s.2)) (fun s => hB s.1 s.2) (x2, h)
  unfold mX12_keep
  refine J.ckd fun hck => ?_
  refine j_iload_n (q := 1) hx (dc kX12_keep_0 0 rfl) rfl 1 rfl rfl ?_
  refine j_iconst (q := 2) (v := (0 : Int32)) hx (dc kX12_keep_0 1 rfl) (by decide) rfl ?_
  refine j_iconst (q := 3) (v := (1 : Int32)) hx (dc kX12_keep_0 2 rfl) (by decide) rfl ?_
  refine w_cSIR (q := 6) (As := [.int x1, .int (0 : Int32), .int (1 : Int32)]) (st := []) hx (dc kX12_keep_0 3 rfl) (cI _ my_X12_in lm_X12_85 (by decide)) st_X12_in rfl (fun u hu => sX12_in _ _ _ _ _ _ _ hu) (Nat.zero_le _) rfl (fun v1 => ?_)
  refine j_if_neS (q := 9) (tgt := 11) hx (dc kX12_keep_0 4 rfl) (by decide) rfl ?_ ?_
  · refine j_aload_n (q := 12) hx (dc kX12_keep_0 7 rfl) rfl 0 rfl rfl ?_
    refine w_gR (q := 15) hx (dc kX12_keep_0 8 rfl) ff_X12_7 lk_X12_32 rfl (fun v3 => ?_)
    refine j_iload_n (q := 16) hx (dc kX12_keep_0 9 rfl) rfl 1 rfl rfl ?_
    refine j_iconst (q := 17) (v := (1 : Int32)) hx (dc kX12_keep_0 10 rfl) (by decide) rfl ?_
    refine w_stZ (q := 18) hx (dc kX12_keep_0 11 rfl) rfl (fun h4 => ?_)
    refine j_iconst (q := 19) (v := (0 : Int32)) hx (dc kX12_keep_0 12 rfl) (by decide) rfl ?_
    refine j_istore_n (q := 20) (i := 2) (l2 := [(0, vR x.2.2.2 x0), (1, .int x1)]) hx (dc kX12_keep_0 13 rfl) rfl (hn 2 (by decide)) [0, 1] rfl ⟨⟨show (0 : Nat) ≠ 2 by decide, Or.inl (show (0 : Nat) + 1 ≠ 2 by decide)⟩, ⟨⟨show (1 : Nat) ≠ 2 by decide, Or.inr rfl⟩, trivial⟩⟩ rfl ?_
    exact j_sub [1, 2, 0] rfl (hb20 x0 x1 (0 : Int32) h4)
  · refine j_iconst (q := 10) (v := (0 : Int32)) hx (dc kX12_keep_0 5 rfl) (by decide) rfl ?_
    exact r_cW hx (Or.inl rfl) hR (dc kX12_keep_0 6 rfl)

set_option maxHeartbeats 4000000 in
set_option maxRecDepth 100000 in
theorem sX12_again (l : Launch) (w : Wd) (x0 : Nat) (x1 : Int32) (h : Hp) (u : (Int32 × Hp)) (hK : mX12_again x0 x1 h = some u) : M1 l w mi_X12_again 4 [vR w x0, .int x1] h u.2 (some (.int u.1)) := by
  refine M1.of (own := RX12) (T := fun _ r => r = u) hK (by decide +kernel) rfl (by first | (simp only [lg_lenR, lg_lenI, lg_lenL, lg_len0]; decide) | decide) (fun x hx hnl hhf hl hw hret hnm hQ h0e => ⟨?_, rfl⟩)
  subst hw
  subst hl
  have hR : Rt x h u.2 (some (.int u.1)) ((some .boolean)) := ⟨h0e, hhf, hret, hQ⟩
  have hn : ∀ i, i < 3 → i < x.2.2.1.1.1 := fun i hi => by rw [hnl]; exact hi
  have e0 : lv_args 0 [vR x.2.2.2 x0, .int x1] = [(0, vR x.2.2.2 x0), (1, .int x1)] := by simp only [lv_argsR, lv_argsI, lv_argsL, lv_args0]
  rw [e0]
  have hb26 : ∀ (x0 : Nat) (x1 : Int32) (x2 : Int32) (h : Hp), J x 26 [(0, vR x.2.2.2 x0), (1, .int x1), (2, .int x2)] [] h (mX12_again_l26 x0 x1 x2 h) (fun r => r = u) := by
    intro x0 x1 x2 h
    have hB : ∀ (x2 : Int32) (h : Hp), J x 26 [(0, vR x.2.2.2 x0), (1, .int x1), (2, .int x2)] [] h (mX12_again_l26f x0 x1 x2 h) (TL (S := (Int32 × Hp)) x 26 (fun s => [(0, vR x.2.2.2 x0), (1, .int x1), (2, .int s.1)]) [] (fun s => s.2) (fun r => r = u)) := by
      intro x2 h
      unfold mX12_again_l26f
      refine j_iload_n (q := 27) hx (dc kX12_again_0 16 rfl) rfl 2 rfl rfl ?_
      refine j_bipush (q := 29) (v := (83 : Int32)) hx (dc kX12_again_0 17 rfl) (by decide) rfl ?_
      refine j_icmp_geS (q := 32) (tgt := 55) hx (dc kX12_again_0 18 rfl) (by decide) rfl ?_ ?_
      · refine j_exit ?_
        refine j_aload_n (q := 56) hx (dc kX12_again_0 33 rfl) rfl 0 rfl rfl ?_
        refine w_cVVW (q := 59) (As := []) (st := []) hx (dc kX12_again_0 34 rfl) cf12 (by decide) rfl (cI _ my_X12_laysKnown lm_X12_308 (by decide)) vs_X12_laysKnown rfl (fun u hu => sX12_laysKnown _ _ _ _ _ hu) (fun e => ite_ne (by unfold mX12_laysKnown at e; exact e)) (Nat.zero_le _) rfl (fun h8 => ?_)
        refine j_iconst (q := 60) (v := (1 : Int32)) hx (dc kX12_again_0 35 rfl) (by decide) rfl ?_
        exact r_cW hx (Or.inr rfl) hR (dc kX12_again_0 36 rfl)
      · refine j_aload_n (q := 33) hx (dc kX12_again_0 19 rfl) rfl 0 rfl rfl ?_
        refine w_gR (q := 36) hx (dc kX12_again_0 20 rfl) ff_X12_4 lk_X12_23 rfl (fun v9 => ?_)
        refine j_iload_n (q := 37) hx (dc kX12_again_0 21 rfl) rfl 2 rfl rfl ?_
        refine j_aload_n (q := 38) hx (dc kX12_again_0 22 rfl) rfl 0 rfl rfl ?_
        refine w_gR (q := 41) hx (dc kX12_again_0 23 rfl) ff_X12_6 lk_X12_29 rfl (fun v10 => ?_)
        refine j_bipush (q := 43) (v := (83 : Int32)) hx (dc kX12_again_0 24 rfl) (by decide) rfl ?_
        refine j_iload_n (q := 44) hx (dc kX12_again_0 25 rfl) rfl 1 rfl rfl ?_
        refine j_imul (q := 45) hx (dc kX12_again_0 26 rfl) rfl ?_
        refine j_iload_n (q := 46) hx (dc kX12_again_0 27 rfl) rfl 2 rfl rfl ?_
        refine j_iadd (q := 47) hx (dc kX12_again_0 28 rfl) rfl ?_
        refine j_ldI (q := 48) hx (dc kX12_again_0 29 rfl) rfl (fun v11 => ?_)
        refine w_stI (q := 49) hx (dc kX12_again_0 30 rfl) rfl (fun h12 => ?_)
        refine j_iinc (q := 52) (l2 := [(0, vR x.2.2.2 x0), (1, .int x1)]) hx (dc kX12_again_0 31 rfl) 2 rfl (v := (1 : Int32)) (by decide) (hn 2 (by decide)) [0, 1] rfl ⟨⟨show (0 : Nat) ≠ 2 by decide, Or.inl (show (0 : Nat) + 1 ≠ 2 by decide)⟩, ⟨⟨show (1 : Nat) ≠ 2 by decide, Or.inr rfl⟩, trivial⟩⟩ rfl ?_
        refine j_goto (q := 26) hx (dc kX12_again_0 32 rfl) (by decide) ?_
        exact j_back [1, 2, 0] ((x2 + (1 : Int32)), h12) rfl rfl
    exact j_loop (S := (Int32 × Hp)) (lvf := fun s => [(0, vR x.2.2.2 x0), (1, .int x1), (2, .int s.1)]) (hpf := fun s => s.2) (f := (fun s : (Int32 × Hp) => mX12_again_l26f x0 x1 s.1 s.2)) (fun s => hB s.1 s.2) (x2, h)
  unfold mX12_again
  refine J.ckd fun hck => ?_
  refine j_iload_n (q := 1) hx (dc kX12_again_0 0 rfl) rfl 1 rfl rfl ?_
  refine j_iconst (q := 2) (v := (0 : Int32)) hx (dc kX12_again_0 1 rfl) (by decide) rfl ?_
  refine j_iconst (q := 3) (v := (1 : Int32)) hx (dc kX12_again_0 2 rfl) (by decide) rfl ?_
  refine w_cSIR (q := 6) (As := [.int x1, .int (0 : Int32), .int (1 : Int32)]) (st := []) hx (dc kX12_again_0 3 rfl) (cI _ my_X12_in lm_X12_85 (by decide)) st_X12_in rfl (fun u hu => sX12_in _ _ _ _ _ _ _ hu) (Nat.zero_le _) rfl (fun v1 => ?_)
  refine j_if_eq (q := 9) (tgt := 18) hx (dc kX12_again_0 4 rfl) (by decide) Iff.rfl rfl ?_ ?_
  · refine j_iconst (q := 19) (v := (0 : Int32)) hx (dc kX12_again_0 10 rfl) (by decide) rfl ?_
    exact r_cW hx (Or.inl rfl) hR (dc kX12_again_0 11 rfl)
  · refine j_aload_n (q := 10) hx (dc kX12_again_0 5 rfl) rfl 0 rfl rfl ?_
    refine w_gR (q := 13) hx (dc kX12_again_0 6 rfl) ff_X12_7 lk_X12_32 rfl (fun v3 => ?_)
    refine j_iload_n (q := 14) hx (dc kX12_again_0 7 rfl) rfl 1 rfl rfl ?_
    refine j_ldZ (q := 15) hx (dc kX12_again_0 8 rfl) rfl (fun v4 => ?_)
    refine j_if_neS (q := 18) (tgt := 20) hx (dc kX12_again_0 9 rfl) (by decide) rfl ?_ ?_
    · refine j_aload_n (q := 21) hx (dc kX12_again_0 12 rfl) rfl 0 rfl rfl ?_
      refine w_cVVW (q := 24) (As := []) (st := []) hx (dc kX12_again_0 13 rfl) cf12 (by decide) rfl (cI _ my_X12_keepsAct lm_X12_404 (by decide)) vs_X12_keepsAct rfl (fun u hu => sX12_keepsAct _ _ _ _ _ hu) (fun e => ite_ne (by unfold mX12_keepsAct at e; exact e)) (Nat.zero_le _) rfl (fun h6 => ?_)
      refine j_iconst (q := 25) (v := (0 : Int32)) hx (dc kX12_again_0 14 rfl) (by decide) rfl ?_
      refine j_istore_n (q := 26) (i := 2) (l2 := [(0, vR x.2.2.2 x0), (1, .int x1)]) hx (dc kX12_again_0 15 rfl) rfl (hn 2 (by decide)) [0, 1] rfl ⟨⟨show (0 : Nat) ≠ 2 by decide, Or.inl (show (0 : Nat) + 1 ≠ 2 by decide)⟩, ⟨⟨show (1 : Nat) ≠ 2 by decide, Or.inr rfl⟩, trivial⟩⟩ rfl ?_
      exact j_sub [1, 2, 0] rfl (hb26 x0 x1 (0 : Int32) h6)
    · refine j_iconst (q := 19) (v := (0 : Int32)) hx (dc kX12_again_0 10 rfl) (by decide) rfl ?_
      exact r_cW hx (Or.inl rfl) hR (dc kX12_again_0 11 rfl)

set_option maxHeartbeats 4000000 in
set_option maxRecDepth 100000 in
theorem sX12_worlds (l : Launch) (w : Wd) (x0 : Nat) (x1 : Int32) (h : Hp) (u : Int32) (hK : mX12_worlds x0 x1 h = some u) : M1 l w mi_X12_worlds 3 [vR w x0, .int x1] h h (some (.int u)) := by
  refine M1.of (own := RX12) (T := fun _ r => r = u) hK (by decide +kernel) rfl (by first | (simp only [lg_lenR, lg_lenI, lg_lenL, lg_len0]; decide) | decide) (fun x hx hnl hhf hl hw hret hnm hQ h0e => ⟨?_, rfl⟩)
  subst hw
  subst hl
  have hR : Rt x h h (some (.int u)) ((some .int)) := ⟨h0e, hhf, hret, hQ⟩
  have hn : ∀ i, i < 2 → i < x.2.2.1.1.1 := fun i hi => by rw [hnl]; exact hi
  have e0 : lv_args 0 [vR x.2.2.2 x0, .int x1] = [(0, vR x.2.2.2 x0), (1, .int x1)] := by simp only [lv_argsR, lv_argsI, lv_argsL, lv_args0]
  rw [e0]
  unfold mX12_worlds
  refine J.ckd fun hck => ?_
  refine j_iload_n (q := 1) hx (dc kX12_worlds_0 0 rfl) rfl 1 rfl rfl ?_
  refine j_if_neS (q := 4) (tgt := 14) hx (dc kX12_worlds_0 1 rfl) (by decide) rfl ?_ ?_
  · refine j_iload_n (q := 15) hx (dc kX12_worlds_0 6 rfl) rfl 1 rfl rfl ?_
    refine j_iconst (q := 16) (v := (1 : Int32)) hx (dc kX12_worlds_0 7 rfl) (by decide) rfl ?_
    refine j_icmp_neS (q := 19) (tgt := 29) hx (dc kX12_worlds_0 8 rfl) (by decide) rfl ?_ ?_
    · refine j_iconst (q := 30) (v := (-1 : Int32)) hx (dc kX12_worlds_0 13 rfl) (by decide) rfl ?_
      exact r_iR hx hR (dc kX12_worlds_0 14 rfl)
    · refine j_aload_n (q := 20) hx (dc kX12_worlds_0 9 rfl) rfl 0 rfl rfl ?_
      refine w_gR (q := 23) hx (dc kX12_worlds_0 10 rfl) ff_X12_27 lk_X12_55 rfl (fun v1 => ?_)
      refine w_cSIR (q := 26) (As := [vR x.2.2.2 v1]) (st := []) hx (dc kX12_worlds_0 11 rfl) (cI _ my_X12_many lm_X12_322 (by decide)) st_X12_many rfl (fun u hu => sX12_many _ _ _ _ _ hu) (Nat.zero_le _) rfl (fun v2 => ?_)
      refine j_goto (q := 30) hx (dc kX12_worlds_0 12 rfl) (by decide) ?_
      exact r_iR hx hR (dc kX12_worlds_0 14 rfl)
  · refine j_aload_n (q := 5) hx (dc kX12_worlds_0 2 rfl) rfl 0 rfl rfl ?_
    refine w_gR (q := 8) hx (dc kX12_worlds_0 3 rfl) ff_X12_24 lk_X12_46 rfl (fun v4 => ?_)
    refine w_cSIR (q := 11) (As := [vR x.2.2.2 v4]) (st := []) hx (dc kX12_worlds_0 4 rfl) (cI _ my_X12_many lm_X12_322 (by decide)) st_X12_many rfl (fun u hu => sX12_many _ _ _ _ _ hu) (Nat.zero_le _) rfl (fun v5 => ?_)
    refine j_goto (q := 30) hx (dc kX12_worlds_0 5 rfl) (by decide) ?_
    exact r_iR hx hR (dc kX12_worlds_0 14 rfl)

set_option maxHeartbeats 4000000 in
set_option maxRecDepth 100000 in
theorem sX12_clash (l : Launch) (w : Wd) (x0 : Nat) (x1 : Int32) (x2 : Int32) (h : Hp) (u : (Int32 × Hp)) (hK : mX12_clash x0 x1 x2 h = some u) : M1 l w mi_X12_clash 3 [vR w x0, .int x1, .int x2] h u.2 (some (.int u.1)) := by
  refine M1.of (own := RX12) (T := fun _ r => r = u) hK (by decide +kernel) rfl (by first | (simp only [lg_lenR, lg_lenI, lg_lenL, lg_len0]; decide) | decide) (fun x hx hnl hhf hl hw hret hnm hQ h0e => ⟨?_, rfl⟩)
  subst hw
  subst hl
  have hR : Rt x h u.2 (some (.int u.1)) ((some .int)) := ⟨h0e, hhf, hret, hQ⟩
  have hn : ∀ i, i < 4 → i < x.2.2.1.1.1 := fun i hi => by rw [hnl]; exact hi
  have e0 : lv_args 0 [vR x.2.2.2 x0, .int x1, .int x2] = [(0, vR x.2.2.2 x0), (1, .int x1), (2, .int x2)] := by simp only [lv_argsR, lv_argsI, lv_argsL, lv_args0]
  rw [e0]
  unfold mX12_clash
  refine J.ckd fun hck => ?_
  refine j_aload_n (q := 1) hx (dc kX12_clash_0 0 rfl) rfl 0 rfl rfl ?_
  refine j_iload_n (q := 2) hx (dc kX12_clash_0 1 rfl) rfl 1 rfl rfl ?_
  refine w_cVIR (q := 5) (As := [.int x1]) (st := []) hx (dc kX12_clash_0 2 rfl) cf12 (by decide) rfl (cI _ my_X12_isCount lm_X12_380 (by decide)) vs_X12_isCount rfl (fun u hu => sX12_isCount _ _ _ _ _ _ hu) (fun e => ite_ne (by unfold mX12_isCount at e; exact e)) (Nat.zero_le _) rfl (fun v1 => ?_)
  refine j_if_eq (q := 8) (tgt := 16) hx (dc kX12_clash_0 3 rfl) (by decide) Iff.rfl rfl ?_ ?_
  · refine j_iconst (q := 17) (v := (-1 : Int32)) hx (dc kX12_clash_0 8 rfl) (by decide) rfl ?_
    exact r_iW hx hR (dc kX12_clash_0 9 rfl)
  · refine j_aload_n (q := 9) hx (dc kX12_clash_0 4 rfl) rfl 0 rfl rfl ?_
    refine j_iload_n (q := 10) hx (dc kX12_clash_0 5 rfl) rfl 2 rfl rfl ?_
    refine w_cVIR (q := 13) (As := [.int x2]) (st := []) hx (dc kX12_clash_0 6 rfl) cf12 (by decide) rfl (cI _ my_X12_isCount lm_X12_380 (by decide)) vs_X12_isCount rfl (fun u hu => sX12_isCount _ _ _ _ _ _ hu) (fun e => ite_ne (by unfold mX12_isCount at e; exact e)) (Nat.zero_le _) rfl (fun v3 => ?_)
    refine j_if_neS (q := 16) (tgt := 18) hx (dc kX12_clash_0 7 rfl) (by decide) rfl ?_ ?_
    · refine j_aload_n (q := 19) hx (dc kX12_clash_0 10 rfl) rfl 0 rfl rfl ?_
      refine j_iload_n (q := 20) hx (dc kX12_clash_0 11 rfl) rfl 1 rfl rfl ?_
      refine j_iconst (q := 21) (v := (4 : Int32)) hx (dc kX12_clash_0 12 rfl) (by decide) rfl ?_
      refine w_cVIR (q := 24) (As := [.int x1, .int (4 : Int32)]) (st := []) hx (dc kX12_clash_0 13 rfl) cf12 (by decide) rfl (cI _ my_X12_its lm_X12_339 (by decide)) vs_X12_its rfl (fun u hu => sX12_its _ _ _ _ _ _ _ hu) (fun e => ite_ne (by unfold mX12_its at e; exact e)) (Nat.zero_le _) rfl (fun v5 => ?_)
      refine j_aload_n (q := 25) hx (dc kX12_clash_0 14 rfl) rfl 0 rfl rfl ?_
      refine j_iload_n (q := 26) hx (dc kX12_clash_0 15 rfl) rfl 2 rfl rfl ?_
      refine j_iconst (q := 27) (v := (4 : Int32)) hx (dc kX12_clash_0 16 rfl) (by decide) rfl ?_
      refine w_cVIR (q := 30) (As := [.int x2, .int (4 : Int32)]) (st := [.int v5]) hx (dc kX12_clash_0 17 rfl) cf12 (by decide) rfl (cI _ my_X12_its lm_X12_339 (by decide)) vs_X12_its rfl (fun u hu => sX12_its _ _ _ _ _ _ _ hu) (fun e => ite_ne (by unfold mX12_its at e; exact e)) (sum_le (sum_I sum_nil) (by decide)) rfl (fun v7 => ?_)
      refine j_iand (q := 31) hx (dc kX12_clash_0 18 rfl) rfl ?_
      refine j_istore_n (q := 32) (i := 3) (l2 := [(0, vR x.2.2.2 x0), (1, .int x1), (2, .int x2)]) hx (dc kX12_clash_0 19 rfl) rfl (hn 3 (by decide)) [0, 1, 2] rfl ⟨⟨show (0 : Nat) ≠ 3 by decide, Or.inl (show (0 : Nat) + 1 ≠ 3 by decide)⟩, ⟨⟨show (1 : Nat) ≠ 3 by decide, Or.inl (show (1 : Nat) + 1 ≠ 3 by decide)⟩, ⟨⟨show (2 : Nat) ≠ 3 by decide, Or.inr rfl⟩, trivial⟩⟩⟩ rfl ?_
      refine j_aload_n (q := 33) hx (dc kX12_clash_0 20 rfl) rfl 1 rfl rfl ?_
      refine j_aload_n (q := 34) hx (dc kX12_clash_0 21 rfl) rfl 1 rfl rfl ?_
      refine w_gR (q := 37) hx (dc kX12_clash_0 22 rfl) ff_X12_28 lk_X12_58 rfl (fun v9 => ?_)
      refine j_aload_n (q := 38) hx (dc kX12_clash_0 23 rfl) rfl 1 rfl rfl ?_
      refine j_iload_n (q := 39) hx (dc kX12_clash_0 24 rfl) rfl 2 rfl rfl ?_
      refine j_iconst (q := 40) (v := (4 : Int32)) hx (dc kX12_clash_0 25 rfl) (by decide) rfl ?_
      refine w_cVIR (q := 43) (As := [.int x1, .int (4 : Int32)]) (st := [vR x.2.2.2 v9, vR x.2.2.2 x0]) hx (dc kX12_clash_0 26 rfl) cf12 (by decide) rfl (cI _ my_X12_its lm_X12_339 (by decide)) vs_X12_its rfl (fun u hu => sX12_its _ _ _ _ _ _ _ hu) (fun e => ite_ne (by unfold mX12_its at e; exact e)) (sum_le (sum_R (sum_R sum_nil)) (by decide)) rfl (fun v10 => ?_)
      refine j_aload_n (q := 44) hx (dc kX12_clash_0 27 rfl) rfl 1 rfl rfl ?_
      refine j_iload_n (q := 45) hx (dc kX12_clash_0 28 rfl) rfl 3 rfl rfl ?_
      refine j_iconst (q := 46) (v := (4 : Int32)) hx (dc kX12_clash_0 29 rfl) (by decide) rfl ?_
      refine w_cVIR (q := 49) (As := [.int x2, .int (4 : Int32)]) (st := [.int v10, vR x.2.2.2 v9, vR x.2.2.2 x0]) hx (dc kX12_clash_0 30 rfl) cf12 (by decide) rfl (cI _ my_X12_its lm_X12_339 (by decide)) vs_X12_its rfl (fun u hu => sX12_its _ _ _ _ _ _ _ hu) (fun e => ite_ne (by unfold mX12_its at e; exact e)) (sum_le (sum_I (sum_R (sum_R sum_nil))) (by decide)) rfl (fun v12 => ?_)
      refine j_ior (q := 50) hx (dc kX12_clash_0 31 rfl) rfl ?_
      refine j_aload_n (q := 51) hx (dc kX12_clash_0 32 rfl) rfl 1 rfl rfl ?_
      refine j_iload_n (q := 52) hx (dc kX12_clash_0 33 rfl) rfl 2 rfl rfl ?_
      refine j_iconst (q := 53) (v := (5 : Int32)) hx (dc kX12_clash_0 34 rfl) (by decide) rfl ?_
      refine w_cVIR (q := 56) (As := [.int x1, .int (5 : Int32)]) (st := [.int (v10 ||| v12), vR x.2.2.2 v9, vR x.2.2.2 x0]) hx (dc kX12_clash_0 35 rfl) cf12 (by decide) rfl (cI _ my_X12_its lm_X12_339 (by decide)) vs_X12_its rfl (fun u hu => sX12_its _ _ _ _ _ _ _ hu) (fun e => ite_ne (by unfold mX12_its at e; exact e)) (sum_le (sum_I (sum_R (sum_R sum_nil))) (by decide)) rfl (fun v14 => ?_)
      refine j_aload_n (q := 57) hx (dc kX12_clash_0 36 rfl) rfl 1 rfl rfl ?_
      refine j_iload_n (q := 58) hx (dc kX12_clash_0 37 rfl) rfl 3 rfl rfl ?_
      refine j_iconst (q := 59) (v := (5 : Int32)) hx (dc kX12_clash_0 38 rfl) (by decide) rfl ?_
      refine w_cVIR (q := 62) (As := [.int x2, .int (5 : Int32)]) (st := [.int v14, .int (v10 ||| v12), vR x.2.2.2 v9, vR x.2.2.2 x0]) hx (dc kX12_clash_0 39 rfl) cf12 (by decide) rfl (cI _ my_X12_its lm_X12_339 (by decide)) vs_X12_its rfl (fun u hu => sX12_its _ _ _ _ _ _ _ hu) (fun e => ite_ne (by unfold mX12_its at e; exact e)) (sum_le (sum_I (sum_I (sum_R (sum_R sum_nil)))) (by decide)) rfl (fun v16 => ?_)
      refine j_ior (q := 63) hx (dc kX12_clash_0 40 rfl) rfl ?_
      refine w_cVVW (q := 66) (As := [vR x.2.2.2 v9, .int (v10 ||| v12), .int (v14 ||| v16)]) (st := []) hx (dc kX12_clash_0 41 rfl) cf12 (by decide) rfl (cI _ my_X12_laysAgreed lm_X12_335 (by decide)) vs_X12_laysAgreed rfl (fun u hu => sX12_laysAgreed _ _ _ _ _ _ _ _ hu) (fun e => ite_ne (by unfold mX12_laysAgreed at e; exact e)) (Nat.zero_le _) rfl (fun h19 => ?_)
      refine j_aload_n (q := 67) hx (dc kX12_clash_0 42 rfl) rfl 1 rfl rfl ?_
      refine j_iload_n (q := 68) hx (dc kX12_clash_0 43 rfl) rfl 2 rfl rfl ?_
      refine j_iconst (q := 69) (v := (5 : Int32)) hx (dc kX12_clash_0 44 rfl) (by decide) rfl ?_
      refine w_cVIR (q := 72) (As := [.int x1, .int (5 : Int32)]) (st := []) hx (dc kX12_clash_0 45 rfl) cf12 (by decide) rfl (cI _ my_X12_its lm_X12_339 (by decide)) vs_X12_its rfl (fun u hu => sX12_its _ _ _ _ _ _ _ hu) (fun e => ite_ne (by unfold mX12_its at e; exact e)) (Nat.zero_le _) rfl (fun v20 => ?_)
      refine j_iload_n (q := 73) hx (dc kX12_clash_0 46 rfl) rfl 0 rfl rfl ?_
      refine j_iand (q := 74) hx (dc kX12_clash_0 47 rfl) rfl ?_
      refine j_aload_n (q := 75) hx (dc kX12_clash_0 48 rfl) rfl 1 rfl rfl ?_
      refine j_iload_n (q := 76) hx (dc kX12_clash_0 49 rfl) rfl 3 rfl rfl ?_
      refine j_iconst (q := 77) (v := (5 : Int32)) hx (dc kX12_clash_0 50 rfl) (by decide) rfl ?_
      refine w_cVIR (q := 80) (As := [.int x2, .int (5 : Int32)]) (st := [.int (v20 &&& (v5 &&& v7))]) hx (dc kX12_clash_0 51 rfl) cf12 (by decide) rfl (cI _ my_X12_its lm_X12_339 (by decide)) vs_X12_its rfl (fun u hu => sX12_its _ _ _ _ _ _ _ hu) (fun e => ite_ne (by unfold mX12_its at e; exact e)) (sum_le (sum_I sum_nil) (by decide)) rfl (fun v22 => ?_)
      refine j_iload_n (q := 81) hx (dc kX12_clash_0 52 rfl) rfl 0 rfl rfl ?_
      refine j_iand (q := 82) hx (dc kX12_clash_0 53 rfl) rfl ?_
      refine j_icmp_neS (q := 85) (tgt := 95) hx (dc kX12_clash_0 54 rfl) (by decide) rfl ?_ ?_
      · refine j_iconst (q := 96) (v := (1 : Int32)) hx (dc kX12_clash_0 59 rfl) (by decide) rfl ?_
        refine j_goto (q := 100) hx (dc kX12_clash_0 60 rfl) (by decide) ?_
        exact r_iW hx hR (dc kX12_clash_0 62 rfl)
      · refine j_aload_n (q := 86) hx (dc kX12_clash_0 55 rfl) rfl 1 rfl rfl ?_
        refine w_gR (q := 89) hx (dc kX12_clash_0 56 rfl) ff_X12_28 lk_X12_58 rfl (fun v24 => ?_)
        refine w_cSIR (q := 92) (As := [vR x.2.2.2 v24]) (st := []) hx (dc kX12_clash_0 57 rfl) (cI _ my_X12_many lm_X12_322 (by decide)) st_X12_many rfl (fun u hu => sX12_many _ _ _ _ _ hu) (Nat.zero_le _) rfl (fun v25 => ?_)
        refine j_if_neS (q := 95) (tgt := 99) hx (dc kX12_clash_0 58 rfl) (by decide) rfl ?_ ?_
        · refine j_iconst (q := 100) (v := (0 : Int32)) hx (dc kX12_clash_0 61 rfl) (by decide) rfl ?_
          exact r_iW hx hR (dc kX12_clash_0 62 rfl)
        · refine j_iconst (q := 96) (v := (1 : Int32)) hx (dc kX12_clash_0 59 rfl) (by decide) rfl ?_
          refine j_goto (q := 100) hx (dc kX12_clash_0 60 rfl) (by decide) ?_
          exact r_iW hx hR (dc kX12_clash_0 62 rfl)
    · refine j_iconst (q := 17) (v := (-1 : Int32)) hx (dc kX12_clash_0 8 rfl) (by decide) rfl ?_
      exact r_iW hx hR (dc kX12_clash_0 9 rfl)

set_option maxHeartbeats 4000000 in
set_option maxRecDepth 100000 in
theorem sX12_implied (l : Launch) (w : Wd) (x0 : Nat) (x1 : Int32) (x2 : Int32) (h : Hp) (u : Int32) (hK : mX12_implied x0 x1 x2 h = some u) : M1 l w mi_X12_implied 3 [vR w x0, .int x1, .int x2] h h (some (.int u)) := by
  refine M1.of (own := RX12) (T := fun _ r => r = u) hK (by decide +kernel) rfl (by first | (simp only [lg_lenR, lg_lenI, lg_lenL, lg_len0]; decide) | decide) (fun x hx hnl hhf hl hw hret hnm hQ h0e => ⟨?_, rfl⟩)
  subst hw
  subst hl
  have hR : Rt x h h (some (.int u)) ((some .int)) := ⟨h0e, hhf, hret, hQ⟩
  have hn : ∀ i, i < 4 → i < x.2.2.1.1.1 := fun i hi => by rw [hnl]; exact hi
  have e0 : lv_args 0 [vR x.2.2.2 x0, .int x1, .int x2] = [(0, vR x.2.2.2 x0), (1, .int x1), (2, .int x2)] := by simp only [lv_argsR, lv_argsI, lv_argsL, lv_args0]
  rw [e0]
  have hb20 : ∀ (x0 : Nat) (x1 : Int32) (x2 : Int32) (x3 : Int32), J x 20 [(0, vR x.2.2.2 x0), (1, .int x1), (2, .int x2), (3, .int x3)] [] h (mX12_implied_l20 x0 x1 x2 x3 h) (fun r => r = u) := by
    intro x0 x1 x2 x3
    have hB : ∀ (x3 : Int32), J x 20 [(0, vR x.2.2.2 x0), (1, .int x1), (2, .int x2), (3, .int x3)] [] h (mX12_implied_l20f x0 x1 x2 h x3) (TL (S := Int32) x 20 (fun s => [(0, vR x.2.2.2 x0), (1, .int x1), (2, .int x2), (3, .int s)]) [] (fun s => h) (fun r => r = u)) := by
      intro x3
      have hb55 : ∀ (x0 : Nat) (x1 : Int32) (x2 : Int32) (x3 : Int32), J x 55 [(0, vR x.2.2.2 x0), (1, .int x1), (2, .int x2), (3, .int x3)] [] h (mX12_implied_b55 x0 x1 x2 x3 h) (TL (S := Int32) x 20 (fun s => [(0, vR x.2.2.2 x0), (1, .int x1), (2, .int x2), (3, .int s)]) [] (fun s => h) (fun r => r = u)) := by
        intro x0 x1 x2 x3
        unfold mX12_implied_b55
        refine j_iinc (q := 58) (l2 := [(0, vR x.2.2.2 x0), (1, .int x1), (2, .int x2)]) hx (dc kX12_implied_0 31 rfl) 3 rfl (v := (1 : Int32)) (by decide) (hn 3 (by decide)) [0, 1, 2] rfl ⟨⟨show (0 : Nat) ≠ 3 by decide, Or.inl (show (0 : Nat) + 1 ≠ 3 by decide)⟩, ⟨⟨show (1 : Nat) ≠ 3 by decide, Or.inl (show (1 : Nat) + 1 ≠ 3 by decide)⟩, ⟨⟨show (2 : Nat) ≠ 3 by decide, Or.inr rfl⟩, trivial⟩⟩⟩ rfl ?_
        refine j_goto (q := 20) hx (dc kX12_implied_0 32 rfl) (by decide) ?_
        exact j_back [1, 2, 3, 0] (x3 + (1 : Int32)) rfl rfl
      unfold mX12_implied_l20f
      refine j_iload_n (q := 21) hx (dc kX12_implied_0 12 rfl) rfl 3 rfl rfl ?_
      refine j_sipush (q := 24) (v := (256 : Int32)) hx (dc kX12_implied_0 13 rfl) (by decide) rfl ?_
      refine j_icmp_geS (q := 27) (tgt := 61) hx (dc kX12_implied_0 14 rfl) (by decide) rfl ?_ ?_
      · refine j_exit ?_
        refine j_iconst (q := 62) (v := (1 : Int32)) hx (dc kX12_implied_0 33 rfl) (by decide) rfl ?_
        exact r_iR hx hR (dc kX12_implied_0 34 rfl)
      · refine j_aload_n (q := 28) hx (dc kX12_implied_0 15 rfl) rfl 0 rfl rfl ?_
        refine j_iload_n (q := 29) hx (dc kX12_implied_0 16 rfl) rfl 3 rfl rfl ?_
        refine w_cVIR (q := 32) (As := [.int x3]) (st := []) hx (dc kX12_implied_0 17 rfl) cf12 (by decide) rfl (cI _ my_X12_isLeft lm_X12_398 (by decide)) vs_X12_isLeft rfl (fun u hu => sX12_isLeft _ _ _ _ _ _ hu) (fun e => ite_ne (by unfold mX12_isLeft at e; exact e)) (Nat.zero_le _) rfl (fun v5 => ?_)
        refine j_if_eq (q := 35) (tgt := 55) hx (dc kX12_implied_0 18 rfl) (by decide) Iff.rfl rfl ?_ ?_
        · exact hb55 x0 x1 x2 x3
        · refine j_aload_n (q := 36) hx (dc kX12_implied_0 19 rfl) rfl 0 rfl rfl ?_
          refine j_iload_n (q := 37) hx (dc kX12_implied_0 20 rfl) rfl 1 rfl rfl ?_
          refine j_iload_n (q := 38) hx (dc kX12_implied_0 21 rfl) rfl 3 rfl rfl ?_
          refine w_cVIR (q := 41) (As := [.int x1, .int x3]) (st := []) hx (dc kX12_implied_0 22 rfl) cf12 (by decide) rfl (cI _ my_X12_isWon lm_X12_416 (by decide)) vs_X12_isWon rfl (fun u hu => sX12_isWon _ _ _ _ _ _ _ hu) (fun e => ite_ne (by unfold mX12_isWon at e; exact e)) (Nat.zero_le _) rfl (fun v7 => ?_)
          refine j_if_eq (q := 44) (tgt := 55) hx (dc kX12_implied_0 23 rfl) (by decide) Iff.rfl rfl ?_ ?_
          · exact hb55 x0 x1 x2 x3
          · refine j_aload_n (q := 45) hx (dc kX12_implied_0 24 rfl) rfl 0 rfl rfl ?_
            refine j_iload_n (q := 46) hx (dc kX12_implied_0 25 rfl) rfl 2 rfl rfl ?_
            refine j_iload_n (q := 47) hx (dc kX12_implied_0 26 rfl) rfl 3 rfl rfl ?_
            refine w_cVIR (q := 50) (As := [.int x2, .int x3]) (st := []) hx (dc kX12_implied_0 27 rfl) cf12 (by decide) rfl (cI _ my_X12_isWon lm_X12_416 (by decide)) vs_X12_isWon rfl (fun u hu => sX12_isWon _ _ _ _ _ _ _ hu) (fun e => ite_ne (by unfold mX12_isWon at e; exact e)) (Nat.zero_le _) rfl (fun v9 => ?_)
            refine j_if_neS (q := 53) (tgt := 55) hx (dc kX12_implied_0 28 rfl) (by decide) rfl ?_ ?_
            · exact hb55 x0 x1 x2 x3
            · refine j_exit ?_
              refine j_iconst (q := 54) (v := (0 : Int32)) hx (dc kX12_implied_0 29 rfl) (by decide) rfl ?_
              exact r_iR hx hR (dc kX12_implied_0 30 rfl)
    exact j_loop (S := Int32) (lvf := fun s => [(0, vR x.2.2.2 x0), (1, .int x1), (2, .int x2), (3, .int s)]) (hpf := fun s => h) (f := (fun s : Int32 => mX12_implied_l20f x0 x1 x2 h s)) (fun s => hB s) x3
  unfold mX12_implied
  refine J.ckd fun hck => ?_
  refine j_aload_n (q := 1) hx (dc kX12_implied_0 0 rfl) rfl 0 rfl rfl ?_
  refine j_iload_n (q := 2) hx (dc kX12_implied_0 1 rfl) rfl 1 rfl rfl ?_
  refine w_cVIR (q := 5) (As := [.int x1]) (st := []) hx (dc kX12_implied_0 2 rfl) cf12 (by decide) rfl (cI _ my_X12_isCount lm_X12_380 (by decide)) vs_X12_isCount rfl (fun u hu => sX12_isCount _ _ _ _ _ _ hu) (fun e => ite_ne (by unfold mX12_isCount at e; exact e)) (Nat.zero_le _) rfl (fun v1 => ?_)
  refine j_if_eq (q := 8) (tgt := 16) hx (dc kX12_implied_0 3 rfl) (by decide) Iff.rfl rfl ?_ ?_
  · refine j_iconst (q := 17) (v := (-1 : Int32)) hx (dc kX12_implied_0 8 rfl) (by decide) rfl ?_
    exact r_iR hx hR (dc kX12_implied_0 9 rfl)
  · refine j_aload_n (q := 9) hx (dc kX12_implied_0 4 rfl) rfl 0 rfl rfl ?_
    refine j_iload_n (q := 10) hx (dc kX12_implied_0 5 rfl) rfl 2 rfl rfl ?_
    refine w_cVIR (q := 13) (As := [.int x2]) (st := []) hx (dc kX12_implied_0 6 rfl) cf12 (by decide) rfl (cI _ my_X12_isCount lm_X12_380 (by decide)) vs_X12_isCount rfl (fun u hu => sX12_isCount _ _ _ _ _ _ hu) (fun e => ite_ne (by unfold mX12_isCount at e; exact e)) (Nat.zero_le _) rfl (fun v3 => ?_)
    refine j_if_neS (q := 16) (tgt := 18) hx (dc kX12_implied_0 7 rfl) (by decide) rfl ?_ ?_
    · refine j_iconst (q := 19) (v := (0 : Int32)) hx (dc kX12_implied_0 10 rfl) (by decide) rfl ?_
      refine j_istore_n (q := 20) (i := 3) (l2 := [(0, vR x.2.2.2 x0), (1, .int x1), (2, .int x2)]) hx (dc kX12_implied_0 11 rfl) rfl (hn 3 (by decide)) [0, 1, 2] rfl ⟨⟨show (0 : Nat) ≠ 3 by decide, Or.inl (show (0 : Nat) + 1 ≠ 3 by decide)⟩, ⟨⟨show (1 : Nat) ≠ 3 by decide, Or.inl (show (1 : Nat) + 1 ≠ 3 by decide)⟩, ⟨⟨show (2 : Nat) ≠ 3 by decide, Or.inr rfl⟩, trivial⟩⟩⟩ rfl ?_
      exact j_sub [1, 2, 3, 0] rfl (hb20 x0 x1 x2 (0 : Int32))
    · refine j_iconst (q := 17) (v := (-1 : Int32)) hx (dc kX12_implied_0 8 rfl) (by decide) rfl ?_
      exact r_iR hx hR (dc kX12_implied_0 9 rfl)

set_option maxHeartbeats 4000000 in
set_option maxRecDepth 100000 in
theorem sX12_lacksSo (l : Launch) (w : Wd) (x0 : Nat) (x1 : Int32) (x2 : Int32) (h : Hp) (u : (Int32 × Hp)) (hK : mX12_lacksSo x0 x1 x2 h = some u) : M1 l w mi_X12_lacksSo 5 [vR w x0, .int x1, .int x2] h u.2 (some (.int u.1)) := by
  refine M1.of (own := RX12) (T := fun _ r => r = u) hK (by decide +kernel) rfl (by first | (simp only [lg_lenR, lg_lenI, lg_lenL, lg_len0]; decide) | decide) (fun x hx hnl hhf hl hw hret hnm hQ h0e => ⟨?_, rfl⟩)
  subst hw
  subst hl
  have hR : Rt x h u.2 (some (.int u.1)) ((some .boolean)) := ⟨h0e, hhf, hret, hQ⟩
  have hn : ∀ i, i < 7 → i < x.2.2.1.1.1 := fun i hi => by rw [hnl]; exact hi
  have e0 : lv_args 0 [vR x.2.2.2 x0, .int x1, .int x2] = [(0, vR x.2.2.2 x0), (1, .int x1), (2, .int x2)] := by simp only [lv_argsR, lv_argsI, lv_argsL, lv_args0]
  rw [e0]
  have hb10 : ∀ (x0 : Nat) (x1 : Int32) (x2 : Int32) (x3 : Int32) (x4 : Int32) (h : Hp), J x 10 [(0, vR x.2.2.2 x0), (1, .int x1), (2, .int x2), (3, .int x3), (4, .int x4)] [] h (mX12_lacksSo_l10 x0 x1 x2 x3 x4 h) (fun r => r = u) := by
    intro x0 x1 x2 x3 x4 h
    have hB : ∀ (x4 : Int32) (h : Hp), J x 10 [(0, vR x.2.2.2 x0), (1, .int x1), (2, .int x2), (3, .int x3), (4, .int x4)] [] h (mX12_lacksSo_l10f x0 x1 x2 x3 x4 h) (TL (S := (Int32 × Hp)) x 10 (fun s => [(0, vR x.2.2.2 x0), (1, .int x1), (2, .int x2), (3, .int x3), (4, .int s.1)]) [] (fun s => s.2) (fun r => r = u)) := by
      intro x4 h
      have hb133 : ∀ (x0 : Nat) (x1 : Int32) (x2 : Int32) (x3 : Int32) (x4 : Int32) (h : Hp), J x 133 [(0, vR x.2.2.2 x0), (1, .int x1), (2, .int x2), (3, .int x3), (4, .int x4)] [] h (mX12_lacksSo_b133 x0 x1 x2 x3 x4 h) (TL (S := (Int32 × Hp)) x 10 (fun s => [(0, vR x.2.2.2 x0), (1, .int x1), (2, .int x2), (3, .int x3), (4, .int s.1)]) [] (fun s => s.2) (fun r => r = u)) := by
        intro x0 x1 x2 x3 x4 h
        unfold mX12_lacksSo_b133
        refine j_iinc (q := 136) (l2 := [(0, vR x.2.2.2 x0), (1, .int x1), (2, .int x2), (3, .int x3)]) hx (dc kX12_lacksSo_1 10 rfl) 4 rfl (v := (1 : Int32)) (by decide) (hn 4 (by decide)) [0, 1, 2, 3] rfl ⟨⟨show (0 : Nat) ≠ 4 by decide, Or.inl (show (0 : Nat) + 1 ≠ 4 by decide)⟩, ⟨⟨show (1 : Nat) ≠ 4 by decide, Or.inl (show (1 : Nat) + 1 ≠ 4 by decide)⟩, ⟨⟨show (2 : Nat) ≠ 4 by decide, Or.inl (show (2 : Nat) + 1 ≠ 4 by decide)⟩, ⟨⟨show (3 : Nat) ≠ 4 by decide, Or.inr rfl⟩, trivial⟩⟩⟩⟩ rfl ?_
        refine j_goto (q := 10) hx (dc kX12_lacksSo_1 11 rfl) (by decide) ?_
        exact j_back [1, 2, 3, 4, 0] ((x4 + (1 : Int32)), h) rfl rfl
      have hb45 : ∀ (x0 : Nat) (x1 : Int32) (x2 : Int32) (x3 : Int32) (x4 : Int32) (x5 : Int32) (h : Hp), J x 45 [(0, vR x.2.2.2 x0), (1, .int x1), (2, .int x2), (3, .int x3), (4, .int x4), (5, .int x5)] [] h (mX12_lacksSo_l45 x0 x1 x2 x3 x4 x5 h) (TL (S := (Int32 × Hp)) x 10 (fun s => [(0, vR x.2.2.2 x0), (1, .int x1), (2, .int x2), (3, .int x3), (4, .int s.1)]) [] (fun s => s.2) (fun r => r = u)) := by
        intro x0 x1 x2 x3 x4 x5 h
        have hB : ∀ (x5 : Int32) (h : Hp), J x 45 [(0, vR x.2.2.2 x0), (1, .int x1), (2, .int x2), (3, .int x3), (4, .int x4), (5, .int x5)] [] h (mX12_lacksSo_l45f x0 x1 x2 x3 x4 x5 h) (TL (S := (Int32 × Hp)) x 45 (fun s => [(0, vR x.2.2.2 x0), (1, .int x1), (2, .int x2), (3, .int x3), (4, .int x4), (5, .int s.1)]) [] (fun s => s.2) (TL (S := (Int32 × Hp)) x 10 (fun s => [(0, vR x.2.2.2 x0), (1, .int x1), (2, .int x2), (3, .int x3), (4, .int s.1)]) [] (fun s => s.2) (fun r => r = u))) := by
          intro x5 h
          have hb127 : ∀ (x0 : Nat) (x1 : Int32) (x2 : Int32) (x3 : Int32) (x4 : Int32) (x5 : Int32) (h : Hp), J x 127 [(0, vR x.2.2.2 x0), (1, .int x1), (2, .int x2), (3, .int x3), (4, .int x4), (5, .int x5)] [] h (mX12_lacksSo_b127 x0 x1 x2 x3 x4 x5 h) (TL (S := (Int32 × Hp)) x 45 (fun s => [(0, vR x.2.2.2 x0), (1, .int x1), (2, .int x2), (3, .int x3), (4, .int x4), (5, .int s.1)]) [] (fun s => s.2) (TL (S := (Int32 × Hp)) x 10 (fun s => [(0, vR x.2.2.2 x0), (1, .int x1), (2, .int x2), (3, .int x3), (4, .int s.1)]) [] (fun s => s.2) (fun r => r = u))) := by
            intro x0 x1 x2 x3 x4 x5 h
            unfold mX12_lacksSo_b127
            refine j_iinc (q := 130) (l2 := [(0, vR x.2.2.2 x0), (1, .int x1), (2, .int x2), (3, .int x3), (4, .int x4)]) hx (dc kX12_lacksSo_1 8 rfl) 5 rfl (v := (1 : Int32)) (by decide) (hn 5 (by decide)) [0, 1, 2, 3, 4] rfl ⟨⟨show (0 : Nat) ≠ 5 by decide, Or.inl (show (0 : Nat) + 1 ≠ 5 by decide)⟩, ⟨⟨show (1 : Nat) ≠ 5 by decide, Or.inl (show (1 : Nat) + 1 ≠ 5 by decide)⟩, ⟨⟨show (2 : Nat) ≠ 5 by decide, Or.inl (show (2 : Nat) + 1 ≠ 5 by decide)⟩, ⟨⟨show (3 : Nat) ≠ 5 by decide, Or.inl (show (3 : Nat) + 1 ≠ 5 by decide)⟩, ⟨⟨show (4 : Nat) ≠ 5 by decide, Or.inr rfl⟩, trivial⟩⟩⟩⟩⟩ rfl ?_
            refine j_goto (q := 45) hx (dc kX12_lacksSo_1 9 rfl) (by decide) ?_
            exact j_back [1, 2, 3, 4, 5, 0] ((x5 + (1 : Int32)), h) rfl rfl
          have hb85 : ∀ (x0 : Nat) (x1 : Int32) (x2 : Int32) (x3 : Int32) (x4 : Int32) (x5 : Int32) (t0 : Int32) (h : Hp), J x 85 [(0, vR x.2.2.2 x0), (1, .int x1), (2, .int x2), (3, .int x3), (4, .int x4), (5, .int x5)] [.int t0] h (mX12_lacksSo_b85 x0 x1 x2 x3 x4 x5 t0 h) (TL (S := (Int32 × Hp)) x 45 (fun s => [(0, vR x.2.2.2 x0), (1, .int x1), (2, .int x2), (3, .int x3), (4, .int x4), (5, .int s.1)]) [] (fun s => s.2) (TL (S := (Int32 × Hp)) x 10 (fun s => [(0, vR x.2.2.2 x0), (1, .int x1), (2, .int x2), (3, .int x3), (4, .int s.1)]) [] (fun s => s.2) (fun r => r = u))) := by
            intro x0 x1 x2 x3 x4 x5 t0 h
            unfold mX12_lacksSo_b85
            refine j_istore (q := 87) (i := 6) (l2 := [(0, vR x.2.2.2 x0), (1, .int x1), (2, .int x2), (3, .int x3), (4, .int x4), (5, .int x5)]) hx (dc kX12_lacksSo_0 48 rfl) (hn 6 (by decide)) [0, 1, 2, 3, 4, 5] rfl ⟨⟨show (0 : Nat) ≠ 6 by decide, Or.inl (show (0 : Nat) + 1 ≠ 6 by decide)⟩, ⟨⟨show (1 : Nat) ≠ 6 by decide, Or.inl (show (1 : Nat) + 1 ≠ 6 by decide)⟩, ⟨⟨show (2 : Nat) ≠ 6 by decide, Or.inl (show (2 : Nat) + 1 ≠ 6 by decide)⟩, ⟨⟨show (3 : Nat) ≠ 6 by decide, Or.inl (show (3 : Nat) + 1 ≠ 6 by decide)⟩, ⟨⟨show (4 : Nat) ≠ 6 by decide, Or.inl (show (4 : Nat) + 1 ≠ 6 by decide)⟩, ⟨⟨show (5 : Nat) ≠ 6 by decide, Or.inr rfl⟩, trivial⟩⟩⟩⟩⟩⟩ rfl ?_
            refine j_iload (q := 89) hx (dc kX12_lacksSo_0 49 rfl) 0 rfl rfl ?_
            refine j_if_eq (q := 92) (tgt := 127) hx (dc kX12_lacksSo_0 50 rfl) (by decide) Iff.rfl rfl ?_ ?_
            · exact j_sub [1, 2, 3, 4, 5, 6] rfl (hb127 x0 x1 x2 x3 x4 x5 h)
            · refine j_aload_n (q := 93) hx (dc kX12_lacksSo_0 51 rfl) rfl 1 rfl rfl ?_
              refine j_iload_n (q := 94) hx (dc kX12_lacksSo_0 52 rfl) rfl 2 rfl rfl ?_
              refine j_iload_n (q := 95) hx (dc kX12_lacksSo_0 53 rfl) rfl 4 rfl rfl ?_
              refine j_iload (q := 97) hx (dc kX12_lacksSo_0 54 rfl) 5 rfl rfl ?_
              refine j_ior (q := 98) hx (dc kX12_lacksSo_0 55 rfl) rfl ?_
              refine j_aload_n (q := 99) hx (dc kX12_lacksSo_0 56 rfl) rfl 1 rfl rfl ?_
              refine j_iload_n (q := 100) hx (dc kX12_lacksSo_0 57 rfl) rfl 2 rfl rfl ?_
              refine j_iconst (q := 101) (v := (5 : Int32)) hx (dc kX12_lacksSo_0 58 rfl) (by decide) rfl ?_
              refine w_cVIR (q := 104) (As := [.int x1, .int (5 : Int32)]) (st := [.int (x3 ||| x4), .int x1, vR x.2.2.2 x0]) hx (dc kX12_lacksSo_0 59 rfl) cf12 (by decide) rfl (cI _ my_X12_its lm_X12_339 (by decide)) vs_X12_its rfl (fun u hu => sX12_its _ _ _ _ _ _ _ hu) (fun e => ite_ne (by unfold mX12_its at e; exact e)) (sum_le (sum_I (sum_I (sum_R sum_nil))) (by decide)) rfl (fun v7 => ?_)
              refine j_iload (q := 106) hx (dc kX12_lacksSo_0 60 rfl) 6 rfl rfl ?_
              refine j_ior (q := 107) hx (dc kX12_lacksSo_0 61 rfl) rfl ?_
              refine w_cVIW (q := 110) (As := [.int x1, .int (x3 ||| x4), .int (v7 ||| x5)]) (st := []) hx (dc kX12_lacksSo_0 62 rfl) cf12 (by decide) rfl (cI _ my_X12_failsBy lm_X12_367 (by decide)) vs_X12_failsBy rfl (fun u hu => sX12_failsBy _ _ _ _ _ _ _ _ hu) (fun e => ite_ne (by unfold mX12_failsBy at e; exact e)) (Nat.zero_le _) rfl (fun v9 h10 => ?_)
              refine j_if_neS (q := 113) (tgt := 127) hx (dc kX12_lacksSo_0 63 rfl) (by decide) rfl ?_ ?_
              · exact j_sub [1, 2, 3, 4, 5, 6] rfl (hb127 x0 x1 x2 x3 x4 x5 h10)
              · refine j_exit ?_
                refine j_exit ?_
                refine j_aload_n (q := 114) hx (dc kX12_lacksSo_1 0 rfl) rfl 1 rfl rfl ?_
                refine j_iload (q := 116) hx (dc kX12_lacksSo_1 1 rfl) 5 rfl rfl ?_
                refine w_sI (q := 119) hx (dc kX12_lacksSo_1 2 rfl) ff_X12_31 rfl lk_X12_419 (Or.inl rfl) rfl (fun h11 => ?_)
                refine j_aload_n (q := 120) hx (dc kX12_lacksSo_1 3 rfl) rfl 1 rfl rfl ?_
                refine j_iload (q := 122) hx (dc kX12_lacksSo_1 4 rfl) 6 rfl rfl ?_
                refine w_sI (q := 125) hx (dc kX12_lacksSo_1 5 rfl) ff_X12_32 rfl lk_X12_422 (Or.inl rfl) rfl (fun h12 => ?_)
                refine j_iconst (q := 126) (v := (1 : Int32)) hx (dc kX12_lacksSo_1 6 rfl) (by decide) rfl ?_
                exact r_cW hx (Or.inr rfl) hR (dc kX12_lacksSo_1 7 rfl)
          have hb84 : ∀ (x0 : Nat) (x1 : Int32) (x2 : Int32) (x3 : Int32) (x4 : Int32) (x5 : Int32) (h : Hp), J x 84 [(0, vR x.2.2.2 x0), (1, .int x1), (2, .int x2), (3, .int x3), (4, .int x4), (5, .int x5)] [] h (mX12_lacksSo_b84 x0 x1 x2 x3 x4 x5 h) (TL (S := (Int32 × Hp)) x 45 (fun s => [(0, vR x.2.2.2 x0), (1, .int x1), (2, .int x2), (3, .int x3), (4, .int x4), (5, .int s.1)]) [] (fun s => s.2) (TL (S := (Int32 × Hp)) x 10 (fun s => [(0, vR x.2.2.2 x0), (1, .int x1), (2, .int x2), (3, .int x3), (4, .int s.1)]) [] (fun s => s.2) (fun r => r = u))) := by
            intro x0 x1 x2 x3 x4 x5 h
            unfold mX12_lacksSo_b84
            refine j_iconst (q := 85) (v := (0 : Int32)) hx (dc kX12_lacksSo_0 47 rfl) (by decide) rfl ?_
            exact hb85 x0 x1 x2 x3 x4 x5 (0 : Int32) h
          unfold mX12_lacksSo_l45f
          refine j_iload (q := 47) hx (dc kX12_lacksSo_0 26 rfl) 5 rfl rfl ?_
          refine j_iload (q := 49) hx (dc kX12_lacksSo_0 27 rfl) 4 rfl rfl ?_
          refine j_icmp_gt (q := 52) (tgt := 133) hx (dc kX12_lacksSo_0 28 rfl) (by decide) Iff.rfl rfl ?_ ?_
          · refine j_exit ?_
            exact j_sub [0, 1, 2, 3, 4] rfl (hb133 x0 x1 x2 x3 x4 h)
          · refine j_iload (q := 54) hx (dc kX12_lacksSo_0 29 rfl) 5 rfl rfl ?_
            refine j_iload (q := 56) hx (dc kX12_lacksSo_0 30 rfl) 4 rfl rfl ?_
            refine j_iconst (q := 57) (v := (-1 : Int32)) hx (dc kX12_lacksSo_0 31 rfl) (by decide) rfl ?_
            refine j_ixor (q := 58) hx (dc kX12_lacksSo_0 32 rfl) rfl ?_
            refine j_iand (q := 59) hx (dc kX12_lacksSo_0 33 rfl) rfl ?_
            refine j_if_neS (q := 62) (tgt := 84) hx (dc kX12_lacksSo_0 34 rfl) (by decide) rfl ?_ ?_
            · exact hb84 x0 x1 x2 x3 x4 x5 h
            · refine j_iload (q := 64) hx (dc kX12_lacksSo_0 35 rfl) 5 rfl rfl ?_
              refine j_aload_n (q := 65) hx (dc kX12_lacksSo_0 36 rfl) rfl 0 rfl rfl ?_
              refine w_cVIR (q := 68) (As := []) (st := [.int x5]) hx (dc kX12_lacksSo_0 37 rfl) cf12 (by decide) rfl (cI _ my_X12_knownSo lm_X12_332 (by decide)) vs_X12_knownSo rfl (fun u hu => sX12_knownSo _ _ _ _ _ hu) (fun e => ite_ne (by unfold mX12_knownSo at e; exact e)) (sum_le (sum_I sum_nil) (by decide)) rfl (fun v13 => ?_)
              refine j_ixor (q := 69) hx (dc kX12_lacksSo_0 38 rfl) rfl ?_
              refine j_iload (q := 71) hx (dc kX12_lacksSo_0 39 rfl) 4 rfl rfl ?_
              refine j_iand (q := 72) hx (dc kX12_lacksSo_0 40 rfl) rfl ?_
              refine j_aload_n (q := 73) hx (dc kX12_lacksSo_0 41 rfl) rfl 0 rfl rfl ?_
              refine w_cVIR (q := 76) (As := []) (st := [.int ((x5 ^^^ v13) &&& x4)]) hx (dc kX12_lacksSo_0 42 rfl) cf12 (by decide) rfl (cI _ my_X12_knownFacts lm_X12_329 (by decide)) vs_X12_knownFacts rfl (fun u hu => sX12_knownFacts _ _ _ _ _ hu) (fun e => ite_ne (by unfold mX12_knownFacts at e; exact e)) (sum_le (sum_I sum_nil) (by decide)) rfl (fun v15 => ?_)
              refine j_iand (q := 77) hx (dc kX12_lacksSo_0 43 rfl) rfl ?_
              refine j_if_neS (q := 80) (tgt := 84) hx (dc kX12_lacksSo_0 44 rfl) (by decide) rfl ?_ ?_
              · exact hb84 x0 x1 x2 x3 x4 x5 h
              · refine j_iconst (q := 81) (v := (1 : Int32)) hx (dc kX12_lacksSo_0 45 rfl) (by decide) rfl ?_
                refine j_goto (q := 85) hx (dc kX12_lacksSo_0 46 rfl) (by decide) ?_
                exact hb85 x0 x1 x2 x3 x4 x5 (1 : Int32) h
        exact j_loop (S := (Int32 × Hp)) (lvf := fun s => [(0, vR x.2.2.2 x0), (1, .int x1), (2, .int x2), (3, .int x3), (4, .int x4), (5, .int s.1)]) (hpf := fun s => s.2) (f := (fun s : (Int32 × Hp) => mX12_lacksSo_l45f x0 x1 x2 x3 x4 s.1 s.2)) (fun s => hB s.1 s.2) (x5, h)
      unfold mX12_lacksSo_l10f
      refine j_iload (q := 12) hx (dc kX12_lacksSo_0 7 rfl) 4 rfl rfl ?_
      refine j_iconst (q := 13) (v := (1 : Int32)) hx (dc kX12_lacksSo_0 8 rfl) (by decide) rfl ?_
      refine j_aload_n (q := 14) hx (dc kX12_lacksSo_0 9 rfl) rfl 0 rfl rfl ?_
      refine w_gR (q := 17) hx (dc kX12_lacksSo_0 10 rfl) ff_X12_0 lk_X12_7 rfl (fun v3 => ?_)
      refine j_iconst (q := 18) (v := (1 : Int32)) hx (dc kX12_lacksSo_0 11 rfl) (by decide) rfl ?_
      refine j_ldI (q := 19) hx (dc kX12_lacksSo_0 12 rfl) rfl (fun v4 => ?_)
      refine j_ishl (q := 20) hx (dc kX12_lacksSo_0 13 rfl) rfl ?_
      refine j_icmp_geS (q := 23) (tgt := 139) hx (dc kX12_lacksSo_0 14 rfl) (by decide) rfl ?_ ?_
      · refine j_exit ?_
        refine j_iconst (q := 140) (v := (0 : Int32)) hx (dc kX12_lacksSo_1 12 rfl) (by decide) rfl ?_
        exact r_cW hx (Or.inl rfl) hR (dc kX12_lacksSo_1 13 rfl)
      · refine j_iload (q := 25) hx (dc kX12_lacksSo_0 15 rfl) 4 rfl rfl ?_
        refine w_cSIR (q := 28) (As := [.int x4]) (st := []) hx (dc kX12_lacksSo_0 16 rfl) (cI _ my_X12_bits lm_X12_315 (by decide)) st_X12_bits rfl (fun u hu => sX12_bits _ _ _ _ _ hu) (Nat.zero_le _) rfl (fun v5 => ?_)
        refine j_iload_n (q := 29) hx (dc kX12_lacksSo_0 17 rfl) rfl 2 rfl rfl ?_
        refine j_icmp_neS (q := 32) (tgt := 133) hx (dc kX12_lacksSo_0 18 rfl) (by decide) rfl ?_ ?_
        · exact hb133 x0 x1 x2 x3 x4 h
        · refine j_iload (q := 34) hx (dc kX12_lacksSo_0 19 rfl) 4 rfl rfl ?_
          refine j_iload_n (q := 35) hx (dc kX12_lacksSo_0 20 rfl) rfl 3 rfl rfl ?_
          refine j_iand (q := 36) hx (dc kX12_lacksSo_0 21 rfl) rfl ?_
          refine j_if_eq (q := 39) (tgt := 42) hx (dc kX12_lacksSo_0 22 rfl) (by decide) Iff.rfl rfl ?_ ?_
          · refine j_iconst (q := 43) (v := (0 : Int32)) hx (dc kX12_lacksSo_0 24 rfl) (by decide) rfl ?_
            refine j_istore (q := 45) (i := 5) (l2 := [(0, vR x.2.2.2 x0), (1, .int x1), (2, .int x2), (3, .int x3), (4, .int x4)]) hx (dc kX12_lacksSo_0 25 rfl) (hn 5 (by decide)) [0, 1, 2, 3, 4] rfl ⟨⟨show (0 : Nat) ≠ 5 by decide, Or.inl (show (0 : Nat) + 1 ≠ 5 by decide)⟩, ⟨⟨show (1 : Nat) ≠ 5 by decide, Or.inl (show (1 : Nat) + 1 ≠ 5 by decide)⟩, ⟨⟨show (2 : Nat) ≠ 5 by decide, Or.inl (show (2 : Nat) + 1 ≠ 5 by decide)⟩, ⟨⟨show (3 : Nat) ≠ 5 by decide, Or.inl (show (3 : Nat) + 1 ≠ 5 by decide)⟩, ⟨⟨show (4 : Nat) ≠ 5 by decide, Or.inr rfl⟩, trivial⟩⟩⟩⟩⟩ rfl ?_
            exact j_sub [1, 2, 3, 4, 5, 0] rfl (hb45 x0 x1 x2 x3 x4 (0 : Int32) h)
          · refine j_goto (q := 133) hx (dc kX12_lacksSo_0 23 rfl) (by decide) ?_
            exact hb133 x0 x1 x2 x3 x4 h
    exact j_loop (S := (Int32 × Hp)) (lvf := fun s => [(0, vR x.2.2.2 x0), (1, .int x1), (2, .int x2), (3, .int x3), (4, .int s.1)]) (hpf := fun s => s.2) (f := (fun s : (Int32 × Hp) => mX12_lacksSo_l10f x0 x1 x2 x3 s.1 s.2)) (fun s => hB s.1 s.2) (x4, h)
  unfold mX12_lacksSo
  refine J.ckd fun hck => ?_
  refine j_aload_n (q := 1) hx (dc kX12_lacksSo_0 0 rfl) rfl 0 rfl rfl ?_
  refine j_iload_n (q := 2) hx (dc kX12_lacksSo_0 1 rfl) rfl 1 rfl rfl ?_
  refine j_iconst (q := 3) (v := (4 : Int32)) hx (dc kX12_lacksSo_0 2 rfl) (by decide) rfl ?_
  refine w_cVIR (q := 6) (As := [.int x1, .int (4 : Int32)]) (st := []) hx (dc kX12_lacksSo_0 3 rfl) cf12 (by decide) rfl (cI _ my_X12_its lm_X12_339 (by decide)) vs_X12_its rfl (fun u hu => sX12_its _ _ _ _ _ _ _ hu) (fun e => ite_ne (by unfold mX12_its at e; exact e)) (Nat.zero_le _) rfl (fun v1 => ?_)
  refine j_istore_n (q := 7) (i := 3) (l2 := [(0, vR x.2.2.2 x0), (1, .int x1), (2, .int x2)]) hx (dc kX12_lacksSo_0 4 rfl) rfl (hn 3 (by decide)) [0, 1, 2] rfl ⟨⟨show (0 : Nat) ≠ 3 by decide, Or.inl (show (0 : Nat) + 1 ≠ 3 by decide)⟩, ⟨⟨show (1 : Nat) ≠ 3 by decide, Or.inl (show (1 : Nat) + 1 ≠ 3 by decide)⟩, ⟨⟨show (2 : Nat) ≠ 3 by decide, Or.inr rfl⟩, trivial⟩⟩⟩ rfl ?_
  refine j_iconst (q := 8) (v := (0 : Int32)) hx (dc kX12_lacksSo_0 5 rfl) (by decide) rfl ?_
  refine j_istore (q := 10) (i := 4) (l2 := [(3, .int v1), (0, vR x.2.2.2 x0), (1, .int x1), (2, .int x2)]) hx (dc kX12_lacksSo_0 6 rfl) (hn 4 (by decide)) [0, 1, 2, 3] rfl ⟨⟨show (3 : Nat) ≠ 4 by decide, Or.inr rfl⟩, ⟨⟨show (0 : Nat) ≠ 4 by decide, Or.inl (show (0 : Nat) + 1 ≠ 4 by decide)⟩, ⟨⟨show (1 : Nat) ≠ 4 by decide, Or.inl (show (1 : Nat) + 1 ≠ 4 by decide)⟩, ⟨⟨show (2 : Nat) ≠ 4 by decide, Or.inl (show (2 : Nat) + 1 ≠ 4 by decide)⟩, trivial⟩⟩⟩⟩ rfl ?_
  exact j_sub [2, 3, 4, 1, 0] rfl (hb10 x0 x1 x2 v1 (0 : Int32) h)

set_option maxHeartbeats 4000000 in
set_option maxRecDepth 100000 in
theorem sX12_lacks (l : Launch) (w : Wd) (x0 : Nat) (x1 : Int32) (x2 : Int32) (h : Hp) (u : (Int32 × Hp)) (hK : mX12_lacks x0 x1 x2 h = some u) : M1 l w mi_X12_lacks 6 [vR w x0, .int x1, .int x2] h u.2 (some (.int u.1)) := by
  refine M1.of (own := RX12) (T := fun _ r => r = u) hK (by decide +kernel) rfl (by first | (simp only [lg_lenR, lg_lenI, lg_lenL, lg_len0]; decide) | decide) (fun x hx hnl hhf hl hw hret hnm hQ h0e => ⟨?_, rfl⟩)
  subst hw
  subst hl
  have hR : Rt x h u.2 (some (.int u.1)) ((some .int)) := ⟨h0e, hhf, hret, hQ⟩
  have hn : ∀ i, i < 4 → i < x.2.2.1.1.1 := fun i hi => by rw [hnl]; exact hi
  have e0 : lv_args 0 [vR x.2.2.2 x0, .int x1, .int x2] = [(0, vR x.2.2.2 x0), (1, .int x1), (2, .int x2)] := by simp only [lv_argsR, lv_argsI, lv_argsL, lv_args0]
  rw [e0]
  have hb50 : ∀ (x0 : Nat) (x2 : Int32) (x3 : Int32) (h : Hp), J x 50 [(0, vR x.2.2.2 x0), (2, .int x2), (3, .int x3)] [] h (mX12_lacks_b50 x0 x2 x3 h) (fun r => r = u) := by
    intro x0 x2 x3 h
    unfold mX12_lacks_b50
    refine j_iload_n (q := 51) hx (dc kX12_lacks_0 28 rfl) rfl 2 rfl rfl ?_
    refine j_aload_n (q := 52) hx (dc kX12_lacks_0 29 rfl) rfl 0 rfl rfl ?_
    refine w_gR (q := 55) hx (dc kX12_lacks_0 30 rfl) ff_X12_0 lk_X12_7 rfl (fun v9 => ?_)
    refine j_iconst (q := 56) (v := (1 : Int32)) hx (dc kX12_lacks_0 31 rfl) (by decide) rfl ?_
    refine j_ldI (q := 57) hx (dc kX12_lacks_0 32 rfl) rfl (fun v10 => ?_)
    refine j_icmp_leS (q := 60) (tgt := 65) hx (dc kX12_lacks_0 33 rfl) (by decide) rfl ?_ ?_
    · refine j_iload_n (q := 66) hx (dc kX12_lacks_0 36 rfl) rfl 1 rfl rfl ?_
      refine j_if_neS (q := 69) (tgt := 73) hx (dc kX12_lacks_0 37 rfl) (by decide) rfl ?_ ?_
      · refine j_iload_n (q := 74) hx (dc kX12_lacks_0 40 rfl) rfl 1 rfl rfl ?_
        refine j_iconst (q := 75) (v := (1 : Int32)) hx (dc kX12_lacks_0 41 rfl) (by decide) rfl ?_
        refine j_icmp_neS (q := 78) (tgt := 85) hx (dc kX12_lacks_0 42 rfl) (by decide) rfl ?_ ?_
        · refine j_aload_n (q := 86) hx (dc kX12_lacks_0 46 rfl) rfl 0 rfl rfl ?_
          refine w_gI (q := 89) hx (dc kX12_lacks_0 47 rfl) ff_X12_32 lk_X12_422 rfl (fun v11 => ?_)
          exact r_iW hx hR (dc kX12_lacks_0 48 rfl)
        · refine j_aload_n (q := 79) hx (dc kX12_lacks_0 43 rfl) rfl 0 rfl rfl ?_
          refine w_gI (q := 82) hx (dc kX12_lacks_0 44 rfl) ff_X12_31 lk_X12_419 rfl (fun v12 => ?_)
          refine j_goto (q := 89) hx (dc kX12_lacks_0 45 rfl) (by decide) ?_
          exact r_iW hx hR (dc kX12_lacks_0 48 rfl)
      · refine j_iload_n (q := 70) hx (dc kX12_lacks_0 38 rfl) rfl 2 rfl rfl ?_
        refine j_goto (q := 89) hx (dc kX12_lacks_0 39 rfl) (by decide) ?_
        exact r_iW hx hR (dc kX12_lacks_0 48 rfl)
    · refine j_bipush (q := 62) (v := (-2 : Int32)) hx (dc kX12_lacks_0 34 rfl) (by decide) rfl ?_
      refine j_goto (q := 89) hx (dc kX12_lacks_0 35 rfl) (by decide) ?_
      exact r_iW hx hR (dc kX12_lacks_0 48 rfl)
  have hb25 : ∀ (x0 : Nat) (x1 : Int32) (x2 : Int32) (x3 : Int32) (h : Hp), J x 25 [(0, vR x.2.2.2 x0), (1, .int x1), (2, .int x2), (3, .int x3)] [] h (mX12_lacks_l25 x0 x1 x2 x3 h) (fun r => r = u) := by
    intro x0 x1 x2 x3 h
    have hB : ∀ (x3 : Int32) (h : Hp), J x 25 [(0, vR x.2.2.2 x0), (1, .int x1), (2, .int x2), (3, .int x3)] [] h (mX12_lacks_l25f x0 x1 x2 x3 h) (TL (S := (Int32 × Hp)) x 25 (fun s => [(0, vR x.2.2.2 x0), (1, .int x1), (2, .int x2), (3, .int s.1)]) [] (fun s => s.2) (fun r => r = u)) := by
      intro x3 h
      unfold mX12_lacks_l25f
      refine j_iload_n (q := 26) hx (dc kX12_lacks_0 15 rfl) rfl 3 rfl rfl ?_
      refine j_aload_n (q := 27) hx (dc kX12_lacks_0 16 rfl) rfl 0 rfl rfl ?_
      refine w_gR (q := 30) hx (dc kX12_lacks_0 17 rfl) ff_X12_0 lk_X12_7 rfl (fun v7 => ?_)
      refine j_iconst (q := 31) (v := (1 : Int32)) hx (dc kX12_lacks_0 18 rfl) (by decide) rfl ?_
      refine j_ldI (q := 32) hx (dc kX12_lacks_0 19 rfl) rfl (fun v8 => ?_)
      refine j_icmp_gt (q := 35) (tgt := 50) hx (dc kX12_lacks_0 20 rfl) (by decide) Iff.rfl rfl ?_ ?_
      · refine j_exit ?_
        exact j_sub [0, 2, 3] rfl (hb50 x0 x2 x3 h)
      · refine j_aload_n (q := 36) hx (dc kX12_lacks_0 21 rfl) rfl 0 rfl rfl ?_
        refine j_iload_n (q := 37) hx (dc kX12_lacks_0 22 rfl) rfl 1 rfl rfl ?_
        refine j_iload_n (q := 38) hx (dc kX12_lacks_0 23 rfl) rfl 3 rfl rfl ?_
        refine w_cVIW (q := 41) (As := [.int x1, .int x3]) (st := []) hx (dc kX12_lacks_0 24 rfl) cf12 (by decide) rfl (cI _ my_X12_lacksSo lm_X12_425 (by decide)) vs_X12_lacksSo rfl (fun u hu => sX12_lacksSo _ _ _ _ _ _ _ hu) (fun e => ite_ne (by unfold mX12_lacksSo at e; exact e)) (Nat.zero_le _) rfl (fun v13 h14 => ?_)
        refine j_if_neS (q := 44) (tgt := 50) hx (dc kX12_lacks_0 25 rfl) (by decide) rfl ?_ ?_
        · refine j_exit ?_
          exact j_sub [0, 2, 3] rfl (hb50 x0 x2 x3 h14)
        · refine j_iinc (q := 47) (l2 := [(0, vR x.2.2.2 x0), (1, .int x1), (2, .int x2)]) hx (dc kX12_lacks_0 26 rfl) 3 rfl (v := (1 : Int32)) (by decide) (hn 3 (by decide)) [0, 1, 2] rfl ⟨⟨show (0 : Nat) ≠ 3 by decide, Or.inl (show (0 : Nat) + 1 ≠ 3 by decide)⟩, ⟨⟨show (1 : Nat) ≠ 3 by decide, Or.inl (show (1 : Nat) + 1 ≠ 3 by decide)⟩, ⟨⟨show (2 : Nat) ≠ 3 by decide, Or.inr rfl⟩, trivial⟩⟩⟩ rfl ?_
          refine j_goto (q := 25) hx (dc kX12_lacks_0 27 rfl) (by decide) ?_
          exact j_back [1, 2, 3, 0] ((x3 + (1 : Int32)), h14) rfl rfl
    exact j_loop (S := (Int32 × Hp)) (lvf := fun s => [(0, vR x.2.2.2 x0), (1, .int x1), (2, .int x2), (3, .int s.1)]) (hpf := fun s => s.2) (f := (fun s : (Int32 × Hp) => mX12_lacks_l25f x0 x1 x2 s.1 s.2)) (fun s => hB s.1 s.2) (x3, h)
  unfold mX12_lacks
  refine J.ckd fun hck => ?_
  refine j_aload_n (q := 1) hx (dc kX12_lacks_0 0 rfl) rfl 0 rfl rfl ?_
  refine j_iload_n (q := 2) hx (dc kX12_lacks_0 1 rfl) rfl 1 rfl rfl ?_
  refine w_cVIR (q := 5) (As := [.int x1]) (st := []) hx (dc kX12_lacks_0 2 rfl) cf12 (by decide) rfl (cI _ my_X12_isCount lm_X12_380 (by decide)) vs_X12_isCount rfl (fun u hu => sX12_isCount _ _ _ _ _ _ hu) (fun e => ite_ne (by unfold mX12_isCount at e; exact e)) (Nat.zero_le _) rfl (fun v1 => ?_)
  refine j_if_eq (q := 8) (tgt := 17) hx (dc kX12_lacks_0 3 rfl) (by decide) Iff.rfl rfl ?_ ?_
  · refine j_iconst (q := 18) (v := (-1 : Int32)) hx (dc kX12_lacks_0 9 rfl) (by decide) rfl ?_
    exact r_iW hx hR (dc kX12_lacks_0 10 rfl)
  · refine j_iload_n (q := 9) hx (dc kX12_lacks_0 4 rfl) rfl 2 rfl rfl ?_
    refine j_iconst (q := 10) (v := (0 : Int32)) hx (dc kX12_lacks_0 5 rfl) (by decide) rfl ?_
    refine j_iconst (q := 11) (v := (2 : Int32)) hx (dc kX12_lacks_0 6 rfl) (by decide) rfl ?_
    refine w_cSIR (q := 14) (As := [.int x2, .int (0 : Int32), .int (2 : Int32)]) (st := []) hx (dc kX12_lacks_0 7 rfl) (cI _ my_X12_in lm_X12_85 (by decide)) st_X12_in rfl (fun u hu => sX12_in _ _ _ _ _ _ _ hu) (Nat.zero_le _) rfl (fun v3 => ?_)
    refine j_if_neS (q := 17) (tgt := 19) hx (dc kX12_lacks_0 8 rfl) (by decide) rfl ?_ ?_
    · refine j_aload_n (q := 20) hx (dc kX12_lacks_0 11 rfl) rfl 0 rfl rfl ?_
      refine w_cVVW (q := 23) (As := []) (st := []) hx (dc kX12_lacks_0 12 rfl) cf12 (by decide) rfl (cI _ my_X12_laysBacks lm_X12_364 (by decide)) vs_X12_laysBacks rfl (fun u hu => sX12_laysBacks _ _ _ _ _ hu) (fun e => ite_ne (by unfold mX12_laysBacks at e; exact e)) (Nat.zero_le _) rfl (fun h6 => ?_)
      refine j_iconst (q := 24) (v := (0 : Int32)) hx (dc kX12_lacks_0 13 rfl) (by decide) rfl ?_
      refine j_istore_n (q := 25) (i := 3) (l2 := [(0, vR x.2.2.2 x0), (1, .int x1), (2, .int x2)]) hx (dc kX12_lacks_0 14 rfl) rfl (hn 3 (by decide)) [0, 1, 2] rfl ⟨⟨show (0 : Nat) ≠ 3 by decide, Or.inl (show (0 : Nat) + 1 ≠ 3 by decide)⟩, ⟨⟨show (1 : Nat) ≠ 3 by decide, Or.inl (show (1 : Nat) + 1 ≠ 3 by decide)⟩, ⟨⟨show (2 : Nat) ≠ 3 by decide, Or.inr rfl⟩, trivial⟩⟩⟩ rfl ?_
      exact j_sub [1, 2, 3, 0] rfl (hb25 x0 x1 x2 (0 : Int32) h6)
    · refine j_iconst (q := 18) (v := (-1 : Int32)) hx (dc kX12_lacks_0 9 rfl) (by decide) rfl ?_
      exact r_iW hx hR (dc kX12_lacks_0 10 rfl)

set_option maxHeartbeats 4000000 in
set_option maxRecDepth 100000 in
theorem sX12_grown (l : Launch) (w : Wd) (x0 : Nat) (x1 : Int32) (x2 : Int32) (h : Hp) (u : Int32) (hK : mX12_grown x0 x1 x2 h = some u) : M1 l w mi_X12_grown 3 [vR w x0, .int x1, .int x2] h h (some (.int u)) := by
  refine M1.of (own := RX12) (T := fun _ r => r = u) hK (by decide +kernel) rfl (by first | (simp only [lg_lenR, lg_lenI, lg_lenL, lg_len0]; decide) | decide) (fun x hx hnl hhf hl hw hret hnm hQ h0e => ⟨?_, rfl⟩)
  subst hw
  subst hl
  have hR : Rt x h h (some (.int u)) ((some .int)) := ⟨h0e, hhf, hret, hQ⟩
  have hn : ∀ i, i < 6 → i < x.2.2.1.1.1 := fun i hi => by rw [hnl]; exact hi
  have e0 : lv_args 0 [vR x.2.2.2 x0, .int x1, .int x2] = [(0, vR x.2.2.2 x0), (1, .int x1), (2, .int x2)] := by simp only [lv_argsR, lv_argsI, lv_argsL, lv_args0]
  rw [e0]
  have hb32 : ∀ (x2 : Int32) (x3 : Int64) (x5 : Int32), J x 32 [(2, .int x2), (3, .long x3), (5, .int x5)] [] h (mX12_grown_l32 x2 x3 x5 h) (fun r => r = u) := by
    intro x2 x3 x5
    have hB : ∀ (x3 : Int64) (x5 : Int32), J x 32 [(2, .int x2), (3, .long x3), (5, .int x5)] [] h (mX12_grown_l32f x2 h x3 x5) (TL (S := (Int64 × Int32)) x 32 (fun s => [(2, .int x2), (3, .long s.1), (5, .int s.2)]) [] (fun s => h) (fun r => r = u)) := by
      intro x3 x5
      unfold mX12_grown_l32f
      refine j_iload (q := 34) hx (dc kX12_grown_0 19 rfl) 2 rfl rfl ?_
      refine j_iload_n (q := 35) hx (dc kX12_grown_0 20 rfl) rfl 0 rfl rfl ?_
      refine j_icmp_geS (q := 38) (tgt := 63) hx (dc kX12_grown_0 21 rfl) (by decide) rfl ?_ ?_
      · refine j_exit ?_
        refine j_lload_n (q := 64) hx (dc kX12_grown_0 36 rfl) rfl 1 rfl rfl ?_
        refine j_l2i (q := 65) hx (dc kX12_grown_0 37 rfl) rfl ?_
        exact r_iR hx hR (dc kX12_grown_0 38 rfl)
      · refine j_lload_n (q := 39) hx (dc kX12_grown_0 22 rfl) rfl 1 rfl rfl ?_
        refine j_lload_n (q := 40) hx (dc kX12_grown_0 23 rfl) rfl 1 rfl rfl ?_
        refine j_ldc2 (q := 43) hx kl_X12_428 (dc kX12_grown_0 24 rfl) rfl ?_
        refine j_ldiv (q := 44) hx (dc kX12_grown_0 25 rfl) rfl ?_
        refine j_ladd (q := 45) hx (dc kX12_grown_0 26 rfl) rfl ?_
        refine j_lstore_n (q := 46) (i := 3) (l2 := [(2, .int x2), (5, .int x5)]) hx (dc kX12_grown_0 27 rfl) rfl (hn 4 (by decide)) [0, 2] rfl ⟨⟨show (2 : Nat) ≠ 3 by decide, Or.inr rfl⟩, ⟨⟨show (5 : Nat) ≠ 3 by decide, Or.inl (show (5 : Nat) + 1 ≠ 3 by decide)⟩, trivial⟩⟩ (by simp) rfl ?_
        refine j_lload_n (q := 47) hx (dc kX12_grown_0 28 rfl) rfl 0 rfl rfl ?_
        refine j_ldc2 (q := 50) hx kl_X12_430 (dc kX12_grown_0 29 rfl) rfl ?_
        refine j_lcmp (q := 51) hx (dc kX12_grown_0 30 rfl) rfl ?_
        refine j_if_leS (q := 54) (tgt := 57) hx (dc kX12_grown_0 31 rfl) (by decide) rfl ?_ ?_
        · refine j_iinc (q := 60) (l2 := [(3, .long (x3 + (x3 / (10 : Int64)))), (2, .int x2)]) hx (dc kX12_grown_0 34 rfl) 2 rfl (v := (1 : Int32)) (by decide) (hn 5 (by decide)) [0, 1] rfl ⟨⟨show (3 : Nat) ≠ 5 by decide, Or.inl (show (3 : Nat) + 1 ≠ 5 by decide)⟩, ⟨⟨show (2 : Nat) ≠ 5 by decide, Or.inl (show (2 : Nat) + 1 ≠ 5 by decide)⟩, trivial⟩⟩ rfl ?_
          refine j_goto (q := 32) hx (dc kX12_grown_0 35 rfl) (by decide) ?_
          exact j_back [2, 1, 0] ((x3 + (x3 / (10 : Int64))), (x5 + (1 : Int32))) rfl rfl
        · refine j_exit ?_
          refine j_bipush (q := 56) (v := (-2 : Int32)) hx (dc kX12_grown_0 32 rfl) (by decide) rfl ?_
          exact r_iR hx hR (dc kX12_grown_0 33 rfl)
    exact j_loop (S := (Int64 × Int32)) (lvf := fun s => [(2, .int x2), (3, .long s.1), (5, .int s.2)]) (hpf := fun s => h) (f := (fun s : (Int64 × Int32) => mX12_grown_l32f x2 h s.1 s.2)) (fun s => hB s.1 s.2) (x3, x5)
  unfold mX12_grown
  refine J.ckd fun hck => ?_
  refine j_aload_n (q := 1) hx (dc kX12_grown_0 0 rfl) rfl 0 rfl rfl ?_
  refine j_iload_n (q := 2) hx (dc kX12_grown_0 1 rfl) rfl 1 rfl rfl ?_
  refine w_cVIR (q := 5) (As := [.int x1]) (st := []) hx (dc kX12_grown_0 2 rfl) cf12 (by decide) rfl (cI _ my_X12_isCount lm_X12_380 (by decide)) vs_X12_isCount rfl (fun u hu => sX12_isCount _ _ _ _ _ _ hu) (fun e => ite_ne (by unfold mX12_isCount at e; exact e)) (Nat.zero_le _) rfl (fun v1 => ?_)
  refine j_if_eq (q := 8) (tgt := 19) hx (dc kX12_grown_0 3 rfl) (by decide) Iff.rfl rfl ?_ ?_
  · refine j_iconst (q := 20) (v := (-1 : Int32)) hx (dc kX12_grown_0 9 rfl) (by decide) rfl ?_
    exact r_iR hx hR (dc kX12_grown_0 10 rfl)
  · refine j_iload_n (q := 9) hx (dc kX12_grown_0 4 rfl) rfl 2 rfl rfl ?_
    refine j_iconst (q := 10) (v := (0 : Int32)) hx (dc kX12_grown_0 5 rfl) (by decide) rfl ?_
    refine j_sipush (q := 13) (v := (400 : Int32)) hx (dc kX12_grown_0 6 rfl) (by decide) rfl ?_
    refine w_cSIR (q := 16) (As := [.int x2, .int (0 : Int32), .int (400 : Int32)]) (st := []) hx (dc kX12_grown_0 7 rfl) (cI _ my_X12_in lm_X12_85 (by decide)) st_X12_in rfl (fun u hu => sX12_in _ _ _ _ _ _ _ hu) (Nat.zero_le _) rfl (fun v3 => ?_)
    refine j_if_neS (q := 19) (tgt := 21) hx (dc kX12_grown_0 8 rfl) (by decide) rfl ?_ ?_
    · refine j_aload_n (q := 22) hx (dc kX12_grown_0 11 rfl) rfl 0 rfl rfl ?_
      refine j_iload_n (q := 23) hx (dc kX12_grown_0 12 rfl) rfl 1 rfl rfl ?_
      refine j_iconst (q := 24) (v := (2 : Int32)) hx (dc kX12_grown_0 13 rfl) (by decide) rfl ?_
      refine w_cVIR (q := 27) (As := [.int x1, .int (2 : Int32)]) (st := []) hx (dc kX12_grown_0 14 rfl) cf12 (by decide) rfl (cI _ my_X12_its lm_X12_339 (by decide)) vs_X12_its rfl (fun u hu => sX12_its _ _ _ _ _ _ _ hu) (fun e => ite_ne (by unfold mX12_its at e; exact e)) (Nat.zero_le _) rfl (fun v5 => ?_)
      refine j_i2l (q := 28) hx (dc kX12_grown_0 15 rfl) rfl ?_
      refine j_lstore_n (q := 29) (i := 3) (l2 := [(2, .int x2)]) hx (dc kX12_grown_0 16 rfl) rfl (hn 4 (by decide)) [2] rfl ⟨⟨show (2 : Nat) ≠ 3 by decide, Or.inr rfl⟩, trivial⟩ (by simp) rfl ?_
      refine j_iconst (q := 30) (v := (0 : Int32)) hx (dc kX12_grown_0 17 rfl) (by decide) rfl ?_
      refine j_istore (q := 32) (i := 5) (l2 := [(3, .long v5.toInt64), (2, .int x2)]) hx (dc kX12_grown_0 18 rfl) (hn 5 (by decide)) [0, 1] rfl ⟨⟨show (3 : Nat) ≠ 5 by decide, Or.inl (show (3 : Nat) + 1 ≠ 5 by decide)⟩, ⟨⟨show (2 : Nat) ≠ 5 by decide, Or.inl (show (2 : Nat) + 1 ≠ 5 by decide)⟩, trivial⟩⟩ rfl ?_
      exact j_sub [2, 1, 0] rfl (hb32 x2 v5.toInt64 (0 : Int32))
    · refine j_iconst (q := 20) (v := (-1 : Int32)) hx (dc kX12_grown_0 9 rfl) (by decide) rfl ?_
      exact r_iR hx hR (dc kX12_grown_0 10 rfl)

set_option maxHeartbeats 4000000 in
set_option maxRecDepth 100000 in
theorem sX12_tells (l : Launch) (w : Wd) (x0 : Int32) (x1 : Int32) (h : Hp) (u : Int32) (hK : mX12_tells x0 x1 h = some u) : M1 l w mi_X12_tells 1 [.int x0, .int x1] h h (some (.int u)) := by
  refine M1.of (own := RX12) (T := fun _ r => r = u) hK (by decide +kernel) rfl (by first | (simp only [lg_lenR, lg_lenI, lg_lenL, lg_len0]; decide) | decide) (fun x hx hnl hhf hl hw hret hnm hQ h0e => ⟨?_, rfl⟩)
  subst hw
  subst hl
  have hR : Rt x h h (some (.int u)) ((some .int)) := ⟨h0e, hhf, hret, hQ⟩
  have hn : ∀ i, i < 2 → i < x.2.2.1.1.1 := fun i hi => by rw [hnl]; exact hi
  have e0 : lv_args 0 [.int x0, .int x1] = [(0, .int x0), (1, .int x1)] := by simp only [lv_argsR, lv_argsI, lv_argsL, lv_args0]
  rw [e0]
  unfold mX12_tells
  refine j_iload_n (q := 1) hx (dc kX12_tells_0 0 rfl) rfl 0 rfl rfl ?_
  refine j_gs (a := 3) (q := 4) hx (dc kX12_tells_0 1 rfl) gs_X12_432 gz_3 rfl ?_
  refine j_iload_n (q := 5) hx (dc kX12_tells_0 2 rfl) rfl 1 rfl rfl ?_
  refine j_ldI (q := 6) hx (dc kX12_tells_0 3 rfl) rfl (fun v1 => ?_)
  refine j_idiv (q := 7) hx (dc kX12_tells_0 4 rfl) rfl ?_
  refine j_iconst (q := 8) (v := (3 : Int32)) hx (dc kX12_tells_0 5 rfl) (by decide) rfl ?_
  refine j_irem (q := 9) hx (dc kX12_tells_0 6 rfl) rfl ?_
  exact r_iR hx hR (dc kX12_tells_0 7 rfl)

set_option maxHeartbeats 4000000 in
set_option maxRecDepth 100000 in
theorem sX12_untold (l : Launch) (w : Wd) (x0 : Nat) (x1 : Int32) (x2 : Int32) (h : Hp) (u : Int32) (hK : mX12_untold x0 x1 x2 h = some u) : M1 l w mi_X12_untold 2 [vR w x0, .int x1, .int x2] h h (some (.int u)) := by
  refine M1.of (own := RX12) (T := fun _ r => r = u) hK (by decide +kernel) rfl (by first | (simp only [lg_lenR, lg_lenI, lg_lenL, lg_len0]; decide) | decide) (fun x hx hnl hhf hl hw hret hnm hQ h0e => ⟨?_, rfl⟩)
  subst hw
  subst hl
  have hR : Rt x h h (some (.int u)) ((some .int)) := ⟨h0e, hhf, hret, hQ⟩
  have hn : ∀ i, i < 4 → i < x.2.2.1.1.1 := fun i hi => by rw [hnl]; exact hi
  have e0 : lv_args 0 [vR x.2.2.2 x0, .int x1, .int x2] = [(0, vR x.2.2.2 x0), (1, .int x1), (2, .int x2)] := by simp only [lv_argsR, lv_argsI, lv_argsL, lv_args0]
  rw [e0]
  have hb2 : ∀ (x0 : Nat) (x1 : Int32) (x3 : Int32), J x 2 [(0, vR x.2.2.2 x0), (1, .int x1), (3, .int x3)] [] h (mX12_untold_l2 x0 x1 x3 h) (fun r => r = u) := by
    intro x0 x1 x3
    have hB : ∀ (x3 : Int32), J x 2 [(0, vR x.2.2.2 x0), (1, .int x1), (3, .int x3)] [] h (mX12_untold_l2f x0 x1 h x3) (TL (S := Int32) x 2 (fun s => [(0, vR x.2.2.2 x0), (1, .int x1), (3, .int s)]) [] (fun s => h) (fun r => r = u)) := by
      intro x3
      unfold mX12_untold_l2f
      refine j_iload_n (q := 3) hx (dc kX12_untold_0 2 rfl) rfl 2 rfl rfl ?_
      refine j_aload_n (q := 4) hx (dc kX12_untold_0 3 rfl) rfl 0 rfl rfl ?_
      refine w_gR (q := 7) hx (dc kX12_untold_0 4 rfl) ff_X12_0 lk_X12_7 rfl (fun v1 => ?_)
      refine j_iconst (q := 8) (v := (1 : Int32)) hx (dc kX12_untold_0 5 rfl) (by decide) rfl ?_
      refine j_ldI (q := 9) hx (dc kX12_untold_0 6 rfl) rfl (fun v2 => ?_)
      refine j_icmp_geS (q := 12) (tgt := 26) hx (dc kX12_untold_0 7 rfl) (by decide) rfl ?_ ?_
      · refine j_exit ?_
        refine j_iload_n (q := 27) hx (dc kX12_untold_0 14 rfl) rfl 2 rfl rfl ?_
        exact r_iR hx hR (dc kX12_untold_0 15 rfl)
      · refine j_iload_n (q := 13) hx (dc kX12_untold_0 8 rfl) rfl 1 rfl rfl ?_
        refine j_iload_n (q := 14) hx (dc kX12_untold_0 9 rfl) rfl 2 rfl rfl ?_
        refine w_cSIR (q := 17) (As := [.int x1, .int x3]) (st := []) hx (dc kX12_untold_0 10 rfl) (cI _ my_X12_tells lm_X12_435 (by decide)) st_X12_tells rfl (fun u hu => sX12_tells _ _ _ _ _ _ hu) (Nat.zero_le _) rfl (fun v3 => ?_)
        refine j_if_eq (q := 20) (tgt := 26) hx (dc kX12_untold_0 11 rfl) (by decide) Iff.rfl rfl ?_ ?_
        · refine j_exit ?_
          refine j_iload_n (q := 27) hx (dc kX12_untold_0 14 rfl) rfl 2 rfl rfl ?_
          exact r_iR hx hR (dc kX12_untold_0 15 rfl)
        · refine j_iinc (q := 23) (l2 := [(0, vR x.2.2.2 x0), (1, .int x1)]) hx (dc kX12_untold_0 12 rfl) 2 rfl (v := (1 : Int32)) (by decide) (hn 3 (by decide)) [0, 1] rfl ⟨⟨show (0 : Nat) ≠ 3 by decide, Or.inl (show (0 : Nat) + 1 ≠ 3 by decide)⟩, ⟨⟨show (1 : Nat) ≠ 3 by decide, Or.inl (show (1 : Nat) + 1 ≠ 3 by decide)⟩, trivial⟩⟩ rfl ?_
          refine j_goto (q := 2) hx (dc kX12_untold_0 13 rfl) (by decide) ?_
          exact j_back [1, 2, 0] (x3 + (1 : Int32)) rfl rfl
    exact j_loop (S := Int32) (lvf := fun s => [(0, vR x.2.2.2 x0), (1, .int x1), (3, .int s)]) (hpf := fun s => h) (f := (fun s : Int32 => mX12_untold_l2f x0 x1 h s)) (fun s => hB s) x3
  unfold mX12_untold
  refine J.ckd fun hck => ?_
  refine j_iload_n (q := 1) hx (dc kX12_untold_0 0 rfl) rfl 2 rfl rfl ?_
  refine j_istore_n (q := 2) (i := 3) (l2 := [(0, vR x.2.2.2 x0), (1, .int x1)]) hx (dc kX12_untold_0 1 rfl) rfl (hn 3 (by decide)) [0, 1] rfl ⟨⟨show (0 : Nat) ≠ 3 by decide, Or.inl (show (0 : Nat) + 1 ≠ 3 by decide)⟩, ⟨⟨show (1 : Nat) ≠ 3 by decide, Or.inl (show (1 : Nat) + 1 ≠ 3 by decide)⟩, trivial⟩⟩ rfl ?_
  exact j_sub [1, 2, 0] rfl (hb2 x0 x1 x2)

set_option maxHeartbeats 4000000 in
set_option maxRecDepth 100000 in
theorem sX12_laysWays (l : Launch) (w : Wd) (x0 : Nat) (x1 : Int32) (h : Hp) (u : Hp) (hK : mX12_laysWays x0 x1 h = some u) : M1 l w mi_X12_laysWays 3 [vR w x0, .int x1] h u (none) := by
  refine M1.of (own := RX12) (T := fun _ r => r = u) hK (by decide +kernel) rfl (by first | (simp only [lg_lenR, lg_lenI, lg_lenL, lg_len0]; decide) | decide) (fun x hx hnl hhf hl hw hret hnm hQ h0e => ⟨?_, rfl⟩)
  subst hw
  subst hl
  have hR : Rt x h u (none) (none) := ⟨h0e, hhf, hret, hQ⟩
  have hn : ∀ i, i < 6 → i < x.2.2.1.1.1 := fun i hi => by rw [hnl]; exact hi
  have e0 : lv_args 0 [vR x.2.2.2 x0, .int x1] = [(0, vR x.2.2.2 x0), (1, .int x1)] := by simp only [lv_argsR, lv_argsI, lv_argsL, lv_args0]
  rw [e0]
  have hb13 : ∀ (x0 : Nat) (x1 : Int32) (x2 : Int32) (h : Hp), J x 13 [(0, vR x.2.2.2 x0), (1, .int x1), (2, .int x2)] [] h (mX12_laysWays_l13 x0 x1 x2 h) (fun r => r = u) := by
    intro x0 x1 x2 h
    have hB : ∀ (x2 : Int32) (h : Hp), J x 13 [(0, vR x.2.2.2 x0), (1, .int x1), (2, .int x2)] [] h (mX12_laysWays_l13f x0 x1 x2 h) (TL (S := (Int32 × Hp)) x 13 (fun s => [(0, vR x.2.2.2 x0), (1, .int x1), (2, .int s.1)]) [] (fun s => s.2) (fun r => r = u)) := by
      intro x2 h
      have hb194 : ∀ (x0 : Nat) (x1 : Int32) (x2 : Int32) (h : Hp), J x 194 [(0, vR x.2.2.2 x0), (1, .int x1), (2, .int x2)] [] h (mX12_laysWays_b194 x0 x1 x2 h) (TL (S := (Int32 × Hp)) x 13 (fun s => [(0, vR x.2.2.2 x0), (1, .int x1), (2, .int s.1)]) [] (fun s => s.2) (fun r => r = u)) := by
        intro x0 x1 x2 h
        unfold mX12_laysWays_b194
        refine j_iinc (q := 197) (l2 := [(0, vR x.2.2.2 x0), (1, .int x1)]) hx (dc kX12_laysWays_1 54 rfl) 2 rfl (v := (-1 : Int32)) (by decide) (hn 2 (by decide)) [0, 1] rfl ⟨⟨show (0 : Nat) ≠ 2 by decide, Or.inl (show (0 : Nat) + 1 ≠ 2 by decide)⟩, ⟨⟨show (1 : Nat) ≠ 2 by decide, Or.inr rfl⟩, trivial⟩⟩ rfl ?_
        refine j_goto (q := 13) hx (dc kX12_laysWays_1 55 rfl) (by decide) ?_
        exact j_back [1, 2, 0] ((x2 + (-1 : Int32)), h) rfl rfl
      have hb193 : ∀ (x0 : Nat) (x1 : Int32) (x2 : Int32) (t0 : Nat) (t1 : Int32) (t2 : Int32) (h : Hp), J x 193 [(0, vR x.2.2.2 x0), (1, .int x1), (2, .int x2)] [.int t2, .int t1, vR x.2.2.2 t0] h (mX12_laysWays_b193 x0 x1 x2 t0 t1 t2 h) (TL (S := (Int32 × Hp)) x 13 (fun s => [(0, vR x.2.2.2 x0), (1, .int x1), (2, .int s.1)]) [] (fun s => s.2) (fun r => r = u)) := by
        intro x0 x1 x2 t0 t1 t2 h
        unfold mX12_laysWays_b193
        refine w_stI (q := 194) hx (dc kX12_laysWays_1 53 rfl) rfl (fun h15 => ?_)
        exact hb194 x0 x1 x2 h15
      have hb192 : ∀ (x0 : Nat) (x1 : Int32) (x2 : Int32) (t0 : Nat) (t1 : Int32) (h : Hp), J x 192 [(0, vR x.2.2.2 x0), (1, .int x1), (2, .int x2)] [.int t1, vR x.2.2.2 t0] h (mX12_laysWays_b192 x0 x1 x2 t0 t1 h) (TL (S := (Int32 × Hp)) x 13 (fun s => [(0, vR x.2.2.2 x0), (1, .int x1), (2, .int s.1)]) [] (fun s => s.2) (fun r => r = u)) := by
        intro x0 x1 x2 t0 t1 h
        unfold mX12_laysWays_b192
        refine j_iconst (q := 193) (v := (0 : Int32)) hx (dc kX12_laysWays_1 52 rfl) (by decide) rfl ?_
        exact hb193 x0 x1 x2 t0 t1 (0 : Int32) h
      have hb163 : ∀ (x0 : Nat) (x1 : Int32) (x2 : Int32) (x4 : Int32) (t0 : Nat) (t1 : Int32) (t2 : Int32) (h : Hp), J x 163 [(0, vR x.2.2.2 x0), (1, .int x1), (2, .int x2), (4, .int x4)] [.int t2, .int t1, vR x.2.2.2 t0] h (mX12_laysWays_b163 x0 x1 x2 x4 t0 t1 t2 h) (TL (S := (Int32 × Hp)) x 13 (fun s => [(0, vR x.2.2.2 x0), (1, .int x1), (2, .int s.1)]) [] (fun s => s.2) (fun r => r = u)) := by
        intro x0 x1 x2 x4 t0 t1 t2 h
        unfold mX12_laysWays_b163
        refine w_stI (q := 164) hx (dc kX12_laysWays_1 37 rfl) rfl (fun h11 => ?_)
        refine j_aload_n (q := 165) hx (dc kX12_laysWays_1 38 rfl) rfl 0 rfl rfl ?_
        refine w_gR (q := 168) hx (dc kX12_laysWays_1 39 rfl) ff_X12_34 lk_X12_70 rfl (fun v12 => ?_)
        refine j_iload_n (q := 169) hx (dc kX12_laysWays_1 40 rfl) rfl 2 rfl rfl ?_
        refine j_aload_n (q := 170) hx (dc kX12_laysWays_1 41 rfl) rfl 0 rfl rfl ?_
        refine j_iload (q := 172) hx (dc kX12_laysWays_1 42 rfl) 3 rfl rfl ?_
        refine w_cVIR (q := 175) (As := [.int x4]) (st := [.int x2, vR x.2.2.2 v12]) hx (dc kX12_laysWays_1 43 rfl) cf12 (by decide) rfl (cI _ my_X12_isLeft lm_X12_398 (by decide)) vs_X12_isLeft rfl (fun u hu => sX12_isLeft _ _ _ _ _ _ hu) (fun e => ite_ne (by unfold mX12_isLeft at e; exact e)) (sum_le (sum_I (sum_R sum_nil)) (by decide)) rfl (fun v13 => ?_)
        refine j_if_eq (q := 178) (tgt := 192) hx (dc kX12_laysWays_1 44 rfl) (by decide) Iff.rfl rfl ?_ ?_
        · exact j_sub [0, 1, 2] rfl (hb192 x0 x1 x2 v12 x2 h11)
        · refine j_aload_n (q := 179) hx (dc kX12_laysWays_1 45 rfl) rfl 0 rfl rfl ?_
          refine j_iload_n (q := 180) hx (dc kX12_laysWays_1 46 rfl) rfl 1 rfl rfl ?_
          refine j_iload (q := 182) hx (dc kX12_laysWays_1 47 rfl) 3 rfl rfl ?_
          refine w_cVIR (q := 185) (As := [.int x1, .int x4]) (st := [.int x2, vR x.2.2.2 v12]) hx (dc kX12_laysWays_1 48 rfl) cf12 (by decide) rfl (cI _ my_X12_isWon lm_X12_416 (by decide)) vs_X12_isWon rfl (fun u hu => sX12_isWon _ _ _ _ _ _ _ hu) (fun e => ite_ne (by unfold mX12_isWon at e; exact e)) (sum_le (sum_I (sum_R sum_nil)) (by decide)) rfl (fun v16 => ?_)
          refine j_if_eq (q := 188) (tgt := 192) hx (dc kX12_laysWays_1 49 rfl) (by decide) Iff.rfl rfl ?_ ?_
          · exact j_sub [0, 1, 2] rfl (hb192 x0 x1 x2 v12 x2 h11)
          · refine j_iconst (q := 189) (v := (1 : Int32)) hx (dc kX12_laysWays_1 50 rfl) (by decide) rfl ?_
            refine j_goto (q := 193) hx (dc kX12_laysWays_1 51 rfl) (by decide) ?_
            exact j_sub [0, 1, 2] rfl (hb193 x0 x1 x2 v12 x2 (1 : Int32) h11)
      have hb109 : ∀ (x0 : Nat) (x1 : Int32) (x2 : Int32) (x3 : Int32) (x4 : Int32) (x5 : Int32) (h : Hp), J x 109 [(0, vR x.2.2.2 x0), (1, .int x1), (2, .int x2), (3, .int x3), (4, .int x4), (5, .int x5)] [] h (mX12_laysWays_l109 x0 x1 x2 x3 x4 x5 h) (TL (S := (Int32 × Hp)) x 13 (fun s => [(0, vR x.2.2.2 x0), (1, .int x1), (2, .int s.1)]) [] (fun s => s.2) (fun r => r = u)) := by
        intro x0 x1 x2 x3 x4 x5 h
        have hB : ∀ (x4 : Int32) (x5 : Int32), J x 109 [(0, vR x.2.2.2 x0), (1, .int x1), (2, .int x2), (3, .int x3), (4, .int x4), (5, .int x5)] [] h (mX12_laysWays_l109f x0 x1 x2 x3 h x4 x5) (TL (S := (Int32 × Int32)) x 109 (fun s => [(0, vR x.2.2.2 x0), (1, .int x1), (2, .int x2), (3, .int x3), (4, .int s.1), (5, .int s.2)]) [] (fun s => h) (TL (S := (Int32 × Hp)) x 13 (fun s => [(0, vR x.2.2.2 x0), (1, .int x1), (2, .int s.1)]) [] (fun s => s.2) (fun r => r = u))) := by
          intro x4 x5
          have hb135 : ∀ (x0 : Nat) (x1 : Int32) (x2 : Int32) (x3 : Int32) (x5 : Int32) (t0 : Int32) (t1 : Int32) (h : Hp), J x 135 [(0, vR x.2.2.2 x0), (1, .int x1), (2, .int x2), (3, .int x3), (5, .int x5)] [.int t1, .int t0] h (mX12_laysWays_b135 x0 x1 x2 x3 x5 t0 t1 h) (TL (S := (Int32 × Int32)) x 109 (fun s => [(0, vR x.2.2.2 x0), (1, .int x1), (2, .int x2), (3, .int x3), (4, .int s.1), (5, .int s.2)]) [] (fun s => h) (TL (S := (Int32 × Hp)) x 13 (fun s => [(0, vR x.2.2.2 x0), (1, .int x1), (2, .int s.1)]) [] (fun s => s.2) (fun r => r = u))) := by
            intro x0 x1 x2 x3 x5 t0 t1 h
            unfold mX12_laysWays_b135
            refine j_ior (q := 136) hx (dc kX12_laysWays_1 23 rfl) rfl ?_
            refine j_istore (q := 138) (i := 4) (l2 := [(0, vR x.2.2.2 x0), (1, .int x1), (2, .int x2), (3, .int x3), (5, .int x5)]) hx (dc kX12_laysWays_1 24 rfl) (hn 4 (by decide)) [0, 1, 2, 3, 4] rfl ⟨⟨show (0 : Nat) ≠ 4 by decide, Or.inl (show (0 : Nat) + 1 ≠ 4 by decide)⟩, ⟨⟨show (1 : Nat) ≠ 4 by decide, Or.inl (show (1 : Nat) + 1 ≠ 4 by decide)⟩, ⟨⟨show (2 : Nat) ≠ 4 by decide, Or.inl (show (2 : Nat) + 1 ≠ 4 by decide)⟩, ⟨⟨show (3 : Nat) ≠ 4 by decide, Or.inr rfl⟩, ⟨⟨show (5 : Nat) ≠ 4 by decide, Or.inl (show (5 : Nat) + 1 ≠ 4 by decide)⟩, trivial⟩⟩⟩⟩⟩ rfl ?_
            refine j_iinc (q := 141) (l2 := [(4, .int (t0 ||| t1)), (0, vR x.2.2.2 x0), (1, .int x1), (2, .int x2), (3, .int x3)]) hx (dc kX12_laysWays_1 25 rfl) 5 rfl (v := (1 : Int32)) (by decide) (hn 5 (by decide)) [0, 1, 2, 3, 4] rfl ⟨⟨show (4 : Nat) ≠ 5 by decide, Or.inr rfl⟩, ⟨⟨show (0 : Nat) ≠ 5 by decide, Or.inl (show (0 : Nat) + 1 ≠ 5 by decide)⟩, ⟨⟨show (1 : Nat) ≠ 5 by decide, Or.inl (show (1 : Nat) + 1 ≠ 5 by decide)⟩, ⟨⟨show (2 : Nat) ≠ 5 by decide, Or.inl (show (2 : Nat) + 1 ≠ 5 by decide)⟩, ⟨⟨show (3 : Nat) ≠ 5 by decide, Or.inl (show (3 : Nat) + 1 ≠ 5 by decide)⟩, trivial⟩⟩⟩⟩⟩ rfl ?_
            refine j_goto (q := 109) hx (dc kX12_laysWays_1 26 rfl) (by decide) ?_
            exact j_back [2, 3, 4, 5, 1, 0] ((t0 ||| t1), (x5 + (1 : Int32))) rfl rfl
          unfold mX12_laysWays_l109f
          refine j_iload (q := 111) hx (dc kX12_laysWays_1 9 rfl) 5 rfl rfl ?_
          refine j_iload_n (q := 112) hx (dc kX12_laysWays_1 10 rfl) rfl 3 rfl rfl ?_
          refine j_icmp_geS (q := 115) (tgt := 144) hx (dc kX12_laysWays_1 11 rfl) (by decide) rfl ?_ ?_
          · refine j_exit ?_
            refine j_aload_n (q := 145) hx (dc kX12_laysWays_1 27 rfl) rfl 0 rfl rfl ?_
            refine w_gR (q := 148) hx (dc kX12_laysWays_1 28 rfl) ff_X12_33 lk_X12_67 rfl (fun v8 => ?_)
            refine j_iload_n (q := 149) hx (dc kX12_laysWays_1 29 rfl) rfl 2 rfl rfl ?_
            refine j_aload_n (q := 150) hx (dc kX12_laysWays_1 30 rfl) rfl 0 rfl rfl ?_
            refine j_iload (q := 152) hx (dc kX12_laysWays_1 31 rfl) 4 rfl rfl ?_
            refine w_cVIR (q := 155) (As := [.int x4]) (st := [.int x2, vR x.2.2.2 v8]) hx (dc kX12_laysWays_1 32 rfl) cf12 (by decide) rfl (cI _ my_X12_isLeft lm_X12_398 (by decide)) vs_X12_isLeft rfl (fun u hu => sX12_isLeft _ _ _ _ _ _ hu) (fun e => ite_ne (by unfold mX12_isLeft at e; exact e)) (sum_le (sum_I (sum_R sum_nil)) (by decide)) rfl (fun v9 => ?_)
            refine j_if_eq (q := 158) (tgt := 162) hx (dc kX12_laysWays_1 33 rfl) (by decide) Iff.rfl rfl ?_ ?_
            · refine j_iconst (q := 163) (v := (0 : Int32)) hx (dc kX12_laysWays_1 36 rfl) (by decide) rfl ?_
              exact j_sub [0, 1, 2, 4] rfl (hb163 x0 x1 x2 x4 v8 x2 (0 : Int32) h)
            · refine j_iconst (q := 159) (v := (1 : Int32)) hx (dc kX12_laysWays_1 34 rfl) (by decide) rfl ?_
              refine j_goto (q := 163) hx (dc kX12_laysWays_1 35 rfl) (by decide) ?_
              exact j_sub [0, 1, 2, 4] rfl (hb163 x0 x1 x2 x4 v8 x2 (1 : Int32) h)
          · refine j_iload (q := 117) hx (dc kX12_laysWays_1 12 rfl) 4 rfl rfl ?_
            refine j_iload_n (q := 118) hx (dc kX12_laysWays_1 13 rfl) rfl 2 rfl rfl ?_
            refine j_iload (q := 120) hx (dc kX12_laysWays_1 14 rfl) 5 rfl rfl ?_
            refine w_cSIR (q := 123) (As := [.int x2, .int x5]) (st := [.int x4]) hx (dc kX12_laysWays_1 15 rfl) (cI _ my_X12_tells lm_X12_435 (by decide)) st_X12_tells rfl (fun u hu => sX12_tells _ _ _ _ _ _ hu) (sum_le (sum_I sum_nil) (by decide)) rfl (fun v18 => ?_)
            refine j_iconst (q := 124) (v := (2 : Int32)) hx (dc kX12_laysWays_1 16 rfl) (by decide) rfl ?_
            refine j_icmp_neS (q := 127) (tgt := 134) hx (dc kX12_laysWays_1 17 rfl) (by decide) rfl ?_ ?_
            · refine j_iconst (q := 135) (v := (0 : Int32)) hx (dc kX12_laysWays_1 22 rfl) (by decide) rfl ?_
              exact j_sub [0, 1, 2, 3, 5] rfl (hb135 x0 x1 x2 x3 x5 x4 (0 : Int32) h)
            · refine j_iconst (q := 128) (v := (1 : Int32)) hx (dc kX12_laysWays_1 18 rfl) (by decide) rfl ?_
              refine j_iload (q := 130) hx (dc kX12_laysWays_1 19 rfl) 5 rfl rfl ?_
              refine j_ishl (q := 131) hx (dc kX12_laysWays_1 20 rfl) rfl ?_
              refine j_goto (q := 135) hx (dc kX12_laysWays_1 21 rfl) (by decide) ?_
              exact j_sub [0, 1, 2, 3, 5] rfl (hb135 x0 x1 x2 x3 x5 x4 ((1 : Int32) <<< (x5 &&& 31)) h)
        exact j_loop (S := (Int32 × Int32)) (lvf := fun s => [(0, vR x.2.2.2 x0), (1, .int x1), (2, .int x2), (3, .int x3), (4, .int s.1), (5, .int s.2)]) (hpf := fun s => h) (f := (fun s : (Int32 × Int32) => mX12_laysWays_l109f x0 x1 x2 x3 h s.1 s.2)) (fun s => hB s.1 s.2) (x4, x5)
      unfold mX12_laysWays_l13f
      refine j_iload_n (q := 14) hx (dc kX12_laysWays_0 9 rfl) rfl 2 rfl rfl ?_
      refine j_if_lt (q := 17) (tgt := 200) hx (dc kX12_laysWays_0 10 rfl) (by decide) Iff.rfl rfl ?_ ?_
      · refine j_exit ?_
        exact r_vW hx hR (dc kX12_laysWays_1 56 rfl)
      · refine j_aload_n (q := 18) hx (dc kX12_laysWays_0 11 rfl) rfl 0 rfl rfl ?_
        refine j_iload_n (q := 19) hx (dc kX12_laysWays_0 12 rfl) rfl 2 rfl rfl ?_
        refine j_iconst (q := 20) (v := (0 : Int32)) hx (dc kX12_laysWays_0 13 rfl) (by decide) rfl ?_
        refine w_cVIR (q := 23) (As := [.int x2, .int (0 : Int32)]) (st := []) hx (dc kX12_laysWays_0 14 rfl) cf12 (by decide) rfl (cI _ my_X12_untold lm_X12_438 (by decide)) vs_X12_untold rfl (fun u hu => sX12_untold _ _ _ _ _ _ _ hu) (fun e => ite_ne (by unfold mX12_untold at e; exact e)) (Nat.zero_le _) rfl (fun v4 => ?_)
        refine j_istore_n (q := 24) (i := 3) (l2 := [(0, vR x.2.2.2 x0), (1, .int x1), (2, .int x2)]) hx (dc kX12_laysWays_0 15 rfl) rfl (hn 3 (by decide)) [0, 1, 2] rfl ⟨⟨show (0 : Nat) ≠ 3 by decide, Or.inl (show (0 : Nat) + 1 ≠ 3 by decide)⟩, ⟨⟨show (1 : Nat) ≠ 3 by decide, Or.inl (show (1 : Nat) + 1 ≠ 3 by decide)⟩, ⟨⟨show (2 : Nat) ≠ 3 by decide, Or.inr rfl⟩, trivial⟩⟩⟩ rfl ?_
        refine j_iload_n (q := 25) hx (dc kX12_laysWays_0 16 rfl) rfl 0 rfl rfl ?_
        refine j_aload_n (q := 26) hx (dc kX12_laysWays_0 17 rfl) rfl 1 rfl rfl ?_
        refine w_gR (q := 29) hx (dc kX12_laysWays_0 18 rfl) ff_X12_0 lk_X12_7 rfl (fun v6 => ?_)
        refine j_iconst (q := 30) (v := (1 : Int32)) hx (dc kX12_laysWays_0 19 rfl) (by decide) rfl ?_
        refine j_ldI (q := 31) hx (dc kX12_laysWays_0 20 rfl) rfl (fun v7 => ?_)
        refine j_icmp_geS (q := 34) (tgt := 103) hx (dc kX12_laysWays_0 21 rfl) (by decide) rfl ?_ ?_
        · refine j_iconst (q := 104) (v := (0 : Int32)) hx (dc kX12_laysWays_1 5 rfl) (by decide) rfl ?_
          refine j_istore (q := 106) (i := 4) (l2 := [(3, .int v4), (0, vR x.2.2.2 x0), (1, .int x1), (2, .int x2)]) hx (dc kX12_laysWays_1 6 rfl) (hn 4 (by decide)) [0, 1, 2, 3] rfl ⟨⟨show (3 : Nat) ≠ 4 by decide, Or.inr rfl⟩, ⟨⟨show (0 : Nat) ≠ 4 by decide, Or.inl (show (0 : Nat) + 1 ≠ 4 by decide)⟩, ⟨⟨show (1 : Nat) ≠ 4 by decide, Or.inl (show (1 : Nat) + 1 ≠ 4 by decide)⟩, ⟨⟨show (2 : Nat) ≠ 4 by decide, Or.inl (show (2 : Nat) + 1 ≠ 4 by decide)⟩, trivial⟩⟩⟩⟩ rfl ?_
          refine j_iconst (q := 107) (v := (0 : Int32)) hx (dc kX12_laysWays_1 7 rfl) (by decide) rfl ?_
          refine j_istore (q := 109) (i := 5) (l2 := [(4, .int (0 : Int32)), (3, .int v4), (0, vR x.2.2.2 x0), (1, .int x1), (2, .int x2)]) hx (dc kX12_laysWays_1 8 rfl) (hn 5 (by decide)) [0, 1, 2, 3, 4] rfl ⟨⟨show (4 : Nat) ≠ 5 by decide, Or.inr rfl⟩, ⟨⟨show (3 : Nat) ≠ 5 by decide, Or.inl (show (3 : Nat) + 1 ≠ 5 by decide)⟩, ⟨⟨show (0 : Nat) ≠ 5 by decide, Or.inl (show (0 : Nat) + 1 ≠ 5 by decide)⟩, ⟨⟨show (1 : Nat) ≠ 5 by decide, Or.inl (show (1 : Nat) + 1 ≠ 5 by decide)⟩, ⟨⟨show (2 : Nat) ≠ 5 by decide, Or.inl (show (2 : Nat) + 1 ≠ 5 by decide)⟩, trivial⟩⟩⟩⟩⟩ rfl ?_
          exact j_sub [3, 4, 5, 2, 1, 0] rfl (hb109 x0 x1 x2 v4 (0 : Int32) (0 : Int32) h)
        · refine j_aload_n (q := 35) hx (dc kX12_laysWays_0 22 rfl) rfl 1 rfl rfl ?_
          refine w_gR (q := 38) hx (dc kX12_laysWays_0 23 rfl) ff_X12_33 lk_X12_67 rfl (fun v20 => ?_)
          refine j_iload_n (q := 39) hx (dc kX12_laysWays_0 24 rfl) rfl 3 rfl rfl ?_
          refine j_aload_n (q := 40) hx (dc kX12_laysWays_0 25 rfl) rfl 1 rfl rfl ?_
          refine w_gR (q := 43) hx (dc kX12_laysWays_0 26 rfl) ff_X12_33 lk_X12_67 rfl (fun v21 => ?_)
          refine j_iload_n (q := 44) hx (dc kX12_laysWays_0 27 rfl) rfl 3 rfl rfl ?_
          refine j_gs (a := 3) (q := 47) hx (dc kX12_laysWays_0 28 rfl) gs_X12_432 gz_3 rfl ?_
          refine j_iload_n (q := 48) hx (dc kX12_laysWays_0 29 rfl) rfl 0 rfl rfl ?_
          refine j_ldI (q := 49) hx (dc kX12_laysWays_0 30 rfl) rfl (fun v22 => ?_)
          refine j_iadd (q := 50) hx (dc kX12_laysWays_0 31 rfl) rfl ?_
          refine j_ldI (q := 51) hx (dc kX12_laysWays_0 32 rfl) rfl (fun v23 => ?_)
          refine j_aload_n (q := 52) hx (dc kX12_laysWays_0 33 rfl) rfl 1 rfl rfl ?_
          refine w_gR (q := 55) hx (dc kX12_laysWays_0 34 rfl) ff_X12_33 lk_X12_67 rfl (fun v24 => ?_)
          refine j_iload_n (q := 56) hx (dc kX12_laysWays_0 35 rfl) rfl 3 rfl rfl ?_
          refine j_iconst (q := 57) (v := (2 : Int32)) hx (dc kX12_laysWays_0 36 rfl) (by decide) rfl ?_
          refine j_gs (a := 3) (q := 60) hx (dc kX12_laysWays_0 37 rfl) gs_X12_432 gz_3 rfl ?_
          refine j_iload_n (q := 61) hx (dc kX12_laysWays_0 38 rfl) rfl 0 rfl rfl ?_
          refine j_ldI (q := 62) hx (dc kX12_laysWays_0 39 rfl) rfl (fun v25 => ?_)
          refine j_imul (q := 63) hx (dc kX12_laysWays_0 40 rfl) rfl ?_
          refine j_iadd (q := 64) hx (dc kX12_laysWays_0 41 rfl) rfl ?_
          refine j_ldI (q := 65) hx (dc kX12_laysWays_0 42 rfl) rfl (fun v26 => ?_)
          refine j_iadd (q := 66) hx (dc kX12_laysWays_0 43 rfl) rfl ?_
          refine w_stI (q := 67) hx (dc kX12_laysWays_0 44 rfl) rfl (fun h27 => ?_)
          refine j_aload_n (q := 68) hx (dc kX12_laysWays_0 45 rfl) rfl 1 rfl rfl ?_
          refine w_gR (q := 71) hx (dc kX12_laysWays_0 46 rfl) ff_X12_34 lk_X12_70 rfl (fun v28 => ?_)
          refine j_iload_n (q := 72) hx (dc kX12_laysWays_0 47 rfl) rfl 3 rfl rfl ?_
          refine j_aload_n (q := 73) hx (dc kX12_laysWays_0 48 rfl) rfl 1 rfl rfl ?_
          refine w_gR (q := 76) hx (dc kX12_laysWays_0 49 rfl) ff_X12_34 lk_X12_70 rfl (fun v29 => ?_)
          refine j_iload_n (q := 77) hx (dc kX12_laysWays_0 50 rfl) rfl 3 rfl rfl ?_
          refine j_gs (a := 3) (q := 80) hx (dc kX12_laysWays_0 51 rfl) gs_X12_432 gz_3 rfl ?_
          refine j_iload_n (q := 81) hx (dc kX12_laysWays_0 52 rfl) rfl 0 rfl rfl ?_
          refine j_ldI (q := 82) hx (dc kX12_laysWays_0 53 rfl) rfl (fun v30 => ?_)
          refine j_iadd (q := 83) hx (dc kX12_laysWays_0 54 rfl) rfl ?_
          refine j_ldI (q := 84) hx (dc kX12_laysWays_0 55 rfl) rfl (fun v31 => ?_)
          refine j_aload_n (q := 85) hx (dc kX12_laysWays_0 56 rfl) rfl 1 rfl rfl ?_
          refine w_gR (q := 88) hx (dc kX12_laysWays_0 57 rfl) ff_X12_34 lk_X12_70 rfl (fun v32 => ?_)
          refine j_iload_n (q := 89) hx (dc kX12_laysWays_0 58 rfl) rfl 3 rfl rfl ?_
          refine j_iconst (q := 90) (v := (2 : Int32)) hx (dc kX12_laysWays_0 59 rfl) (by decide) rfl ?_
          refine j_gs (a := 3) (q := 93) hx (dc kX12_laysWays_0 60 rfl) gs_X12_432 gz_3 rfl ?_
          refine j_iload_n (q := 94) hx (dc kX12_laysWays_0 61 rfl) rfl 0 rfl rfl ?_
          refine j_ldI (q := 95) hx (dc kX12_laysWays_0 62 rfl) rfl (fun v33 => ?_)
          refine j_imul (q := 96) hx (dc kX12_laysWays_0 63 rfl) rfl ?_
          refine j_iadd (q := 97) hx (dc kX12_laysWays_1 0 rfl) rfl ?_
          refine j_ldI (q := 98) hx (dc kX12_laysWays_1 1 rfl) rfl (fun v34 => ?_)
          refine j_iadd (q := 99) hx (dc kX12_laysWays_1 2 rfl) rfl ?_
          refine w_stI (q := 100) hx (dc kX12_laysWays_1 3 rfl) rfl (fun h35 => ?_)
          refine j_goto (q := 194) hx (dc kX12_laysWays_1 4 rfl) (by decide) ?_
          exact j_sub [1, 2, 3] rfl (hb194 x0 x1 x2 h35)
    exact j_loop (S := (Int32 × Hp)) (lvf := fun s => [(0, vR x.2.2.2 x0), (1, .int x1), (2, .int s.1)]) (hpf := fun s => s.2) (f := (fun s : (Int32 × Hp) => mX12_laysWays_l13f x0 x1 s.1 s.2)) (fun s => hB s.1 s.2) (x2, h)
  unfold mX12_laysWays
  refine J.ckd fun hck => ?_
  refine j_gs (a := 3) (q := 3) hx (dc kX12_laysWays_0 0 rfl) gs_X12_432 gz_3 rfl ?_
  refine j_aload_n (q := 4) hx (dc kX12_laysWays_0 1 rfl) rfl 0 rfl rfl ?_
  refine w_gR (q := 7) hx (dc kX12_laysWays_0 2 rfl) ff_X12_0 lk_X12_7 rfl (fun v1 => ?_)
  refine j_iconst (q := 8) (v := (1 : Int32)) hx (dc kX12_laysWays_0 3 rfl) (by decide) rfl ?_
  refine j_ldI (q := 9) hx (dc kX12_laysWays_0 4 rfl) rfl (fun v2 => ?_)
  refine j_ldI (q := 10) hx (dc kX12_laysWays_0 5 rfl) rfl (fun v3 => ?_)
  refine j_iconst (q := 11) (v := (1 : Int32)) hx (dc kX12_laysWays_0 6 rfl) (by decide) rfl ?_
  refine j_isub (q := 12) hx (dc kX12_laysWays_0 7 rfl) rfl ?_
  refine j_istore_n (q := 13) (i := 2) (l2 := [(0, vR x.2.2.2 x0), (1, .int x1)]) hx (dc kX12_laysWays_0 8 rfl) rfl (hn 2 (by decide)) [0, 1] rfl ⟨⟨show (0 : Nat) ≠ 2 by decide, Or.inl (show (0 : Nat) + 1 ≠ 2 by decide)⟩, ⟨⟨show (1 : Nat) ≠ 2 by decide, Or.inr rfl⟩, trivial⟩⟩ rfl ?_
  exact j_sub [1, 2, 0] rfl (hb13 x0 x1 (v3 - (1 : Int32)) h)

set_option maxHeartbeats 4000000 in
set_option maxRecDepth 100000 in
theorem sX12_wayOf (l : Launch) (w : Wd) (x0 : Int32) (x1 : Int32) (h : Hp) (u : Int32) (hK : mX12_wayOf x0 x1 h = some u) : M1 l w mi_X12_wayOf 2 [.int x0, .int x1] h h (some (.int u)) := by
  refine M1.of (own := RX12) (T := fun _ r => r = u) hK (by decide +kernel) rfl (by first | (simp only [lg_lenR, lg_lenI, lg_lenL, lg_len0]; decide) | decide) (fun x hx hnl hhf hl hw hret hnm hQ h0e => ⟨?_, rfl⟩)
  subst hw
  subst hl
  have hR : Rt x h h (some (.int u)) ((some .int)) := ⟨h0e, hhf, hret, hQ⟩
  have hn : ∀ i, i < 4 → i < x.2.2.1.1.1 := fun i hi => by rw [hnl]; exact hi
  have e0 : lv_args 0 [.int x0, .int x1] = [(0, .int x0), (1, .int x1)] := by simp only [lv_argsR, lv_argsI, lv_argsL, lv_args0]
  rw [e0]
  have hb4 : ∀ (x0 : Int32) (x1 : Int32) (x2 : Int32) (x3 : Int32), J x 4 [(0, .int x0), (1, .int x1), (2, .int x2), (3, .int x3)] [] h (mX12_wayOf_l4 x0 x1 x2 x3 h) (fun r => r = u) := by
    intro x0 x1 x2 x3
    have hB : ∀ (x2 : Int32) (x3 : Int32), J x 4 [(0, .int x0), (1, .int x1), (2, .int x2), (3, .int x3)] [] h (mX12_wayOf_l4f x0 x1 h x2 x3) (TL (S := (Int32 × Int32)) x 4 (fun s => [(0, .int x0), (1, .int x1), (2, .int s.1), (3, .int s.2)]) [] (fun s => h) (fun r => r = u)) := by
      intro x2 x3
      have hb42 : ∀ (x0 : Int32) (x1 : Int32) (x3 : Int32) (t0 : Int32) (t1 : Int32), J x 42 [(0, .int x0), (1, .int x1), (3, .int x3)] [.int t1, .int t0] h (mX12_wayOf_b42 x0 x1 x3 t0 t1 h) (TL (S := (Int32 × Int32)) x 4 (fun s => [(0, .int x0), (1, .int x1), (2, .int s.1), (3, .int s.2)]) [] (fun s => h) (fun r => r = u)) := by
        intro x0 x1 x3 t0 t1
        unfold mX12_wayOf_b42
        refine j_iadd (q := 43) hx (dc kX12_wayOf_0 25 rfl) rfl ?_
        refine j_istore_n (q := 44) (i := 2) (l2 := [(0, .int x0), (1, .int x1), (3, .int x3)]) hx (dc kX12_wayOf_0 26 rfl) rfl (hn 2 (by decide)) [0, 1, 2] rfl ⟨⟨show (0 : Nat) ≠ 2 by decide, Or.inl (show (0 : Nat) + 1 ≠ 2 by decide)⟩, ⟨⟨show (1 : Nat) ≠ 2 by decide, Or.inr rfl⟩, ⟨⟨show (3 : Nat) ≠ 2 by decide, Or.inl (show (3 : Nat) + 1 ≠ 2 by decide)⟩, trivial⟩⟩⟩ rfl ?_
        refine j_iinc (q := 47) (l2 := [(2, .int (t0 + t1)), (0, .int x0), (1, .int x1)]) hx (dc kX12_wayOf_0 27 rfl) 3 rfl (v := (1 : Int32)) (by decide) (hn 3 (by decide)) [0, 1, 2] rfl ⟨⟨show (2 : Nat) ≠ 3 by decide, Or.inr rfl⟩, ⟨⟨show (0 : Nat) ≠ 3 by decide, Or.inl (show (0 : Nat) + 1 ≠ 3 by decide)⟩, ⟨⟨show (1 : Nat) ≠ 3 by decide, Or.inl (show (1 : Nat) + 1 ≠ 3 by decide)⟩, trivial⟩⟩⟩ rfl ?_
        refine j_goto (q := 4) hx (dc kX12_wayOf_0 28 rfl) (by decide) ?_
        exact j_back [2, 3, 1, 0] ((t0 + t1), (x3 + (1 : Int32))) rfl rfl
      have hb37 : ∀ (x0 : Int32) (x1 : Int32) (x3 : Int32) (t0 : Int32) (t1 : Int32) (t2 : Int32), J x 37 [(0, .int x0), (1, .int x1), (3, .int x3)] [.int t2, .int t1, .int t0] h (mX12_wayOf_b37 x0 x1 x3 t0 t1 t2 h) (TL (S := (Int32 × Int32)) x 4 (fun s => [(0, .int x0), (1, .int x1), (2, .int s.1), (3, .int s.2)]) [] (fun s => h) (fun r => r = u)) := by
        intro x0 x1 x3 t0 t1 t2
        unfold mX12_wayOf_b37
        refine j_imul (q := 38) hx (dc kX12_wayOf_0 22 rfl) rfl ?_
        refine j_goto (q := 42) hx (dc kX12_wayOf_0 23 rfl) (by decide) ?_
        exact hb42 x0 x1 x3 t0 (t1 * t2)
      unfold mX12_wayOf_l4f
      refine j_iload_n (q := 5) hx (dc kX12_wayOf_0 4 rfl) rfl 3 rfl rfl ?_
      refine j_bipush (q := 7) (v := (8 : Int32)) hx (dc kX12_wayOf_0 5 rfl) (by decide) rfl ?_
      refine j_icmp_geS (q := 10) (tgt := 50) hx (dc kX12_wayOf_0 6 rfl) (by decide) rfl ?_ ?_
      · refine j_exit ?_
        refine j_iload_n (q := 51) hx (dc kX12_wayOf_0 29 rfl) rfl 2 rfl rfl ?_
        exact r_iR hx hR (dc kX12_wayOf_0 30 rfl)
      · refine j_iload_n (q := 11) hx (dc kX12_wayOf_0 7 rfl) rfl 2 rfl rfl ?_
        refine j_iload_n (q := 12) hx (dc kX12_wayOf_0 8 rfl) rfl 0 rfl rfl ?_
        refine j_iload_n (q := 13) hx (dc kX12_wayOf_0 9 rfl) rfl 3 rfl rfl ?_
        refine w_cSIR (q := 16) (As := [.int x0, .int x3]) (st := [.int x2]) hx (dc kX12_wayOf_0 10 rfl) (cI _ my_X12_has lm_X12_239 (by decide)) st_X12_has rfl (fun u hu => sX12_has _ _ _ _ _ _ hu) (sum_le (sum_I sum_nil) (by decide)) rfl (fun v1 => ?_)
        refine j_if_eq (q := 19) (tgt := 41) hx (dc kX12_wayOf_0 11 rfl) (by decide) Iff.rfl rfl ?_ ?_
        · refine j_iconst (q := 42) (v := (0 : Int32)) hx (dc kX12_wayOf_0 24 rfl) (by decide) rfl ?_
          exact j_sub [0, 1, 3] rfl (hb42 x0 x1 x3 x2 (0 : Int32))
        · refine j_gs (a := 3) (q := 22) hx (dc kX12_wayOf_0 12 rfl) gs_X12_432 gz_3 rfl ?_
          refine j_iload_n (q := 23) hx (dc kX12_wayOf_0 13 rfl) rfl 3 rfl rfl ?_
          refine j_ldI (q := 24) hx (dc kX12_wayOf_0 14 rfl) rfl (fun v3 => ?_)
          refine j_iload_n (q := 25) hx (dc kX12_wayOf_0 15 rfl) rfl 1 rfl rfl ?_
          refine j_iload_n (q := 26) hx (dc kX12_wayOf_0 16 rfl) rfl 3 rfl rfl ?_
          refine w_cSIR (q := 29) (As := [.int x1, .int x3]) (st := [.int v3, .int x2]) hx (dc kX12_wayOf_0 17 rfl) (cI _ my_X12_has lm_X12_239 (by decide)) st_X12_has rfl (fun u hu => sX12_has _ _ _ _ _ _ hu) (sum_le (sum_I (sum_I sum_nil)) (by decide)) rfl (fun v4 => ?_)
          refine j_if_eq (q := 32) (tgt := 36) hx (dc kX12_wayOf_0 18 rfl) (by decide) Iff.rfl rfl ?_ ?_
          · refine j_iconst (q := 37) (v := (1 : Int32)) hx (dc kX12_wayOf_0 21 rfl) (by decide) rfl ?_
            exact j_sub [0, 1, 3] rfl (hb37 x0 x1 x3 x2 v3 (1 : Int32))
          · refine j_iconst (q := 33) (v := (2 : Int32)) hx (dc kX12_wayOf_0 19 rfl) (by decide) rfl ?_
            refine j_goto (q := 37) hx (dc kX12_wayOf_0 20 rfl) (by decide) ?_
            exact j_sub [0, 1, 3] rfl (hb37 x0 x1 x3 x2 v3 (2 : Int32))
    exact j_loop (S := (Int32 × Int32)) (lvf := fun s => [(0, .int x0), (1, .int x1), (2, .int s.1), (3, .int s.2)]) (hpf := fun s => h) (f := (fun s : (Int32 × Int32) => mX12_wayOf_l4f x0 x1 h s.1 s.2)) (fun s => hB s.1 s.2) (x2, x3)
  unfold mX12_wayOf
  refine j_iconst (q := 1) (v := (0 : Int32)) hx (dc kX12_wayOf_0 0 rfl) (by decide) rfl ?_
  refine j_istore_n (q := 2) (i := 2) (l2 := [(0, .int x0), (1, .int x1)]) hx (dc kX12_wayOf_0 1 rfl) rfl (hn 2 (by decide)) [0, 1] rfl ⟨⟨show (0 : Nat) ≠ 2 by decide, Or.inl (show (0 : Nat) + 1 ≠ 2 by decide)⟩, ⟨⟨show (1 : Nat) ≠ 2 by decide, Or.inr rfl⟩, trivial⟩⟩ rfl ?_
  refine j_iconst (q := 3) (v := (0 : Int32)) hx (dc kX12_wayOf_0 2 rfl) (by decide) rfl ?_
  refine j_istore_n (q := 4) (i := 3) (l2 := [(2, .int (0 : Int32)), (0, .int x0), (1, .int x1)]) hx (dc kX12_wayOf_0 3 rfl) rfl (hn 3 (by decide)) [0, 1, 2] rfl ⟨⟨show (2 : Nat) ≠ 3 by decide, Or.inr rfl⟩, ⟨⟨show (0 : Nat) ≠ 3 by decide, Or.inl (show (0 : Nat) + 1 ≠ 3 by decide)⟩, ⟨⟨show (1 : Nat) ≠ 3 by decide, Or.inl (show (1 : Nat) + 1 ≠ 3 by decide)⟩, trivial⟩⟩⟩ rfl ?_
  exact j_sub [2, 3, 1, 0] rfl (hb4 x0 x1 (0 : Int32) (0 : Int32))

set_option maxHeartbeats 4000000 in
set_option maxRecDepth 100000 in
theorem sX12_issues (l : Launch) (w : Wd) (x0 : Nat) (x1 : Int32) (h : Hp) (u : Int32) (hK : mX12_issues x0 x1 h = some u) : M1 l w mi_X12_issues 3 [vR w x0, .int x1] h h (some (.int u)) := by
  refine M1.of (own := RX12) (T := fun _ r => r = u) hK (by decide +kernel) rfl (by first | (simp only [lg_lenR, lg_lenI, lg_lenL, lg_len0]; decide) | decide) (fun x hx hnl hhf hl hw hret hnm hQ h0e => ⟨?_, rfl⟩)
  subst hw
  subst hl
  have hR : Rt x h h (some (.int u)) ((some .int)) := ⟨h0e, hhf, hret, hQ⟩
  have hn : ∀ i, i < 6 → i < x.2.2.1.1.1 := fun i hi => by rw [hnl]; exact hi
  have e0 : lv_args 0 [vR x.2.2.2 x0, .int x1] = [(0, vR x.2.2.2 x0), (1, .int x1)] := by simp only [lv_argsR, lv_argsI, lv_argsL, lv_args0]
  rw [e0]
  have hb14 : ∀ (x0 : Nat) (x1 : Int32) (x2 : Int32) (x3 : Int32), J x 14 [(0, vR x.2.2.2 x0), (1, .int x1), (2, .int x2), (3, .int x3)] [] h (mX12_issues_l14 x0 x1 x2 x3 h) (fun r => r = u) := by
    intro x0 x1 x2 x3
    have hB : ∀ (x2 : Int32) (x3 : Int32), J x 14 [(0, vR x.2.2.2 x0), (1, .int x1), (2, .int x2), (3, .int x3)] [] h (mX12_issues_l14f x0 x1 h x2 x3) (TL (S := (Int32 × Int32)) x 14 (fun s => [(0, vR x.2.2.2 x0), (1, .int x1), (2, .int s.1), (3, .int s.2)]) [] (fun s => h) (fun r => r = u)) := by
      intro x2 x3
      have hb93 : ∀ (x0 : Nat) (x1 : Int32) (x2 : Int32) (x3 : Int32), J x 93 [(0, vR x.2.2.2 x0), (1, .int x1), (2, .int x2), (3, .int x3)] [] h (mX12_issues_b93 x0 x1 x2 x3 h) (TL (S := (Int32 × Int32)) x 14 (fun s => [(0, vR x.2.2.2 x0), (1, .int x1), (2, .int s.1), (3, .int s.2)]) [] (fun s => h) (fun r => r = u)) := by
        intro x0 x1 x2 x3
        unfold mX12_issues_b93
        refine j_iinc (q := 96) (l2 := [(0, vR x.2.2.2 x0), (1, .int x1), (2, .int x2)]) hx (dc kX12_issues_0 54 rfl) 3 rfl (v := (1 : Int32)) (by decide) (hn 3 (by decide)) [0, 1, 2] rfl ⟨⟨show (0 : Nat) ≠ 3 by decide, Or.inl (show (0 : Nat) + 1 ≠ 3 by decide)⟩, ⟨⟨show (1 : Nat) ≠ 3 by decide, Or.inl (show (1 : Nat) + 1 ≠ 3 by decide)⟩, ⟨⟨show (2 : Nat) ≠ 3 by decide, Or.inr rfl⟩, trivial⟩⟩⟩ rfl ?_
        refine j_goto (q := 14) hx (dc kX12_issues_0 55 rfl) (by decide) ?_
        exact j_back [1, 2, 3, 0] (x2, (x3 + (1 : Int32))) rfl rfl
      have hb24 : ∀ (x0 : Nat) (x1 : Int32) (x2 : Int32) (x3 : Int32) (x4 : Int32), J x 24 [(0, vR x.2.2.2 x0), (1, .int x1), (2, .int x2), (3, .int x3), (4, .int x4)] [] h (mX12_issues_l24 x0 x1 x2 x3 x4 h) (TL (S := (Int32 × Int32)) x 14 (fun s => [(0, vR x.2.2.2 x0), (1, .int x1), (2, .int s.1), (3, .int s.2)]) [] (fun s => h) (fun r => r = u)) := by
        intro x0 x1 x2 x3 x4
        have hB : ∀ (x2 : Int32) (x4 : Int32), J x 24 [(0, vR x.2.2.2 x0), (1, .int x1), (2, .int x2), (3, .int x3), (4, .int x4)] [] h (mX12_issues_l24f x0 x1 x3 h x2 x4) (TL (S := (Int32 × Int32)) x 24 (fun s => [(0, vR x.2.2.2 x0), (1, .int x1), (2, .int s.1), (3, .int x3), (4, .int s.2)]) [] (fun s => h) (TL (S := (Int32 × Int32)) x 14 (fun s => [(0, vR x.2.2.2 x0), (1, .int x1), (2, .int s.1), (3, .int s.2)]) [] (fun s => h) (fun r => r = u))) := by
          intro x2 x4
          have hb85 : ∀ (x0 : Nat) (x1 : Int32) (x3 : Int32) (x4 : Int32) (t0 : Int32) (t1 : Int32), J x 85 [(0, vR x.2.2.2 x0), (1, .int x1), (3, .int x3), (4, .int x4)] [.int t1, .int t0] h (mX12_issues_b85 x0 x1 x3 x4 t0 t1 h) (TL (S := (Int32 × Int32)) x 24 (fun s => [(0, vR x.2.2.2 x0), (1, .int x1), (2, .int s.1), (3, .int x3), (4, .int s.2)]) [] (fun s => h) (TL (S := (Int32 × Int32)) x 14 (fun s => [(0, vR x.2.2.2 x0), (1, .int x1), (2, .int s.1), (3, .int s.2)]) [] (fun s => h) (fun r => r = u))) := by
            intro x0 x1 x3 x4 t0 t1
            unfold mX12_issues_b85
            refine j_ior (q := 86) hx (dc kX12_issues_0 50 rfl) rfl ?_
            refine j_istore_n (q := 87) (i := 2) (l2 := [(0, vR x.2.2.2 x0), (1, .int x1), (3, .int x3), (4, .int x4)]) hx (dc kX12_issues_0 51 rfl) rfl (hn 2 (by decide)) [0, 1, 2, 3] rfl ⟨⟨show (0 : Nat) ≠ 2 by decide, Or.inl (show (0 : Nat) + 1 ≠ 2 by decide)⟩, ⟨⟨show (1 : Nat) ≠ 2 by decide, Or.inr rfl⟩, ⟨⟨show (3 : Nat) ≠ 2 by decide, Or.inl (show (3 : Nat) + 1 ≠ 2 by decide)⟩, ⟨⟨show (4 : Nat) ≠ 2 by decide, Or.inl (show (4 : Nat) + 1 ≠ 2 by decide)⟩, trivial⟩⟩⟩⟩ rfl ?_
            refine j_iinc (q := 90) (l2 := [(2, .int (t0 ||| t1)), (0, vR x.2.2.2 x0), (1, .int x1), (3, .int x3)]) hx (dc kX12_issues_0 52 rfl) 4 rfl (v := (1 : Int32)) (by decide) (hn 4 (by decide)) [0, 1, 2, 3] rfl ⟨⟨show (2 : Nat) ≠ 4 by decide, Or.inl (show (2 : Nat) + 1 ≠ 4 by decide)⟩, ⟨⟨show (0 : Nat) ≠ 4 by decide, Or.inl (show (0 : Nat) + 1 ≠ 4 by decide)⟩, ⟨⟨show (1 : Nat) ≠ 4 by decide, Or.inl (show (1 : Nat) + 1 ≠ 4 by decide)⟩, ⟨⟨show (3 : Nat) ≠ 4 by decide, Or.inr rfl⟩, trivial⟩⟩⟩⟩ rfl ?_
            refine j_goto (q := 24) hx (dc kX12_issues_0 53 rfl) (by decide) ?_
            exact j_back [2, 3, 1, 4, 0] ((t0 ||| t1), (x4 + (1 : Int32))) rfl rfl
          have hb84 : ∀ (x0 : Nat) (x1 : Int32) (x3 : Int32) (x4 : Int32) (t0 : Int32), J x 84 [(0, vR x.2.2.2 x0), (1, .int x1), (3, .int x3), (4, .int x4)] [.int t0] h (mX12_issues_b84 x0 x1 x3 x4 t0 h) (TL (S := (Int32 × Int32)) x 24 (fun s => [(0, vR x.2.2.2 x0), (1, .int x1), (2, .int s.1), (3, .int x3), (4, .int s.2)]) [] (fun s => h) (TL (S := (Int32 × Int32)) x 14 (fun s => [(0, vR x.2.2.2 x0), (1, .int x1), (2, .int s.1), (3, .int s.2)]) [] (fun s => h) (fun r => r = u))) := by
            intro x0 x1 x3 x4 t0
            unfold mX12_issues_b84
            refine j_iconst (q := 85) (v := (0 : Int32)) hx (dc kX12_issues_0 49 rfl) (by decide) rfl ?_
            exact hb85 x0 x1 x3 x4 t0 (0 : Int32)
          unfold mX12_issues_l24f
          refine j_iload (q := 26) hx (dc kX12_issues_0 15 rfl) 4 rfl rfl ?_
          refine j_aload_n (q := 27) hx (dc kX12_issues_0 16 rfl) rfl 0 rfl rfl ?_
          refine w_gR (q := 30) hx (dc kX12_issues_0 17 rfl) ff_X12_0 lk_X12_7 rfl (fun v3 => ?_)
          refine j_iconst (q := 31) (v := (1 : Int32)) hx (dc kX12_issues_0 18 rfl) (by decide) rfl ?_
          refine j_ldI (q := 32) hx (dc kX12_issues_0 19 rfl) rfl (fun v4 => ?_)
          refine j_icmp_geS (q := 35) (tgt := 93) hx (dc kX12_issues_0 20 rfl) (by decide) rfl ?_ ?_
          · refine j_exit ?_
            exact j_sub [0, 1, 2, 3] rfl (hb93 x0 x1 x2 x3)
          · refine j_aload_n (q := 36) hx (dc kX12_issues_0 21 rfl) rfl 0 rfl rfl ?_
            refine j_iload_n (q := 37) hx (dc kX12_issues_0 22 rfl) rfl 3 rfl rfl ?_
            refine w_cVIR (q := 40) (As := [.int x3]) (st := []) hx (dc kX12_issues_0 23 rfl) cf12 (by decide) rfl (cI _ my_X12_isLeft lm_X12_398 (by decide)) vs_X12_isLeft rfl (fun u hu => sX12_isLeft _ _ _ _ _ _ hu) (fun e => ite_ne (by unfold mX12_isLeft at e; exact e)) (Nat.zero_le _) rfl (fun v5 => ?_)
            refine j_if_eq (q := 43) (tgt := 93) hx (dc kX12_issues_0 24 rfl) (by decide) Iff.rfl rfl ?_ ?_
            · refine j_exit ?_
              exact j_sub [0, 1, 2, 3] rfl (hb93 x0 x1 x2 x3)
            · refine j_iload_n (q := 44) hx (dc kX12_issues_0 25 rfl) rfl 3 rfl rfl ?_
              refine j_iconst (q := 45) (v := (1 : Int32)) hx (dc kX12_issues_0 26 rfl) (by decide) rfl ?_
              refine j_iload (q := 47) hx (dc kX12_issues_0 27 rfl) 4 rfl rfl ?_
              refine j_ishl (q := 48) hx (dc kX12_issues_0 28 rfl) rfl ?_
              refine j_ixor (q := 49) hx (dc kX12_issues_0 29 rfl) rfl ?_
              refine j_istore (q := 51) (i := 5) (l2 := [(0, vR x.2.2.2 x0), (1, .int x1), (2, .int x2), (3, .int x3), (4, .int x4)]) hx (dc kX12_issues_0 30 rfl) (hn 5 (by decide)) [0, 1, 2, 3, 4] rfl ⟨⟨show (0 : Nat) ≠ 5 by decide, Or.inl (show (0 : Nat) + 1 ≠ 5 by decide)⟩, ⟨⟨show (1 : Nat) ≠ 5 by decide, Or.inl (show (1 : Nat) + 1 ≠ 5 by decide)⟩, ⟨⟨show (2 : Nat) ≠ 5 by decide, Or.inl (show (2 : Nat) + 1 ≠ 5 by decide)⟩, ⟨⟨show (3 : Nat) ≠ 5 by decide, Or.inl (show (3 : Nat) + 1 ≠ 5 by decide)⟩, ⟨⟨show (4 : Nat) ≠ 5 by decide, Or.inr rfl⟩, trivial⟩⟩⟩⟩⟩ rfl ?_
              refine j_iload_n (q := 52) hx (dc kX12_issues_0 31 rfl) rfl 3 rfl rfl ?_
              refine j_aload_n (q := 53) hx (dc kX12_issues_0 32 rfl) rfl 1 rfl rfl ?_
              refine j_iload (q := 55) hx (dc kX12_issues_0 33 rfl) 0 rfl rfl ?_
              refine w_cVIR (q := 58) (As := [.int (x3 ^^^ ((1 : Int32) <<< (x4 &&& 31)))]) (st := [.int x2]) hx (dc kX12_issues_0 34 rfl) cf12 (by decide) rfl (cI _ my_X12_isLeft lm_X12_398 (by decide)) vs_X12_isLeft rfl (fun u hu => sX12_isLeft _ _ _ _ _ _ hu) (fun e => ite_ne (by unfold mX12_isLeft at e; exact e)) (sum_le (sum_I sum_nil) (by decide)) rfl (fun v7 => ?_)
              refine j_if_eq (q := 61) (tgt := 84) hx (dc kX12_issues_0 35 rfl) (by decide) Iff.rfl rfl ?_ ?_
              · exact j_sub [1, 2, 4, 5] rfl (hb84 x0 x1 x3 x4 x2)
              · refine j_aload_n (q := 62) hx (dc kX12_issues_0 36 rfl) rfl 1 rfl rfl ?_
                refine j_iload_n (q := 63) hx (dc kX12_issues_0 37 rfl) rfl 2 rfl rfl ?_
                refine j_iload_n (q := 64) hx (dc kX12_issues_0 38 rfl) rfl 4 rfl rfl ?_
                refine w_cVIR (q := 67) (As := [.int x1, .int x3]) (st := [.int x2]) hx (dc kX12_issues_0 39 rfl) cf12 (by decide) rfl (cI _ my_X12_isWon lm_X12_416 (by decide)) vs_X12_isWon rfl (fun u hu => sX12_isWon _ _ _ _ _ _ _ hu) (fun e => ite_ne (by unfold mX12_isWon at e; exact e)) (sum_le (sum_I sum_nil) (by decide)) rfl (fun v9 => ?_)
                refine j_aload_n (q := 68) hx (dc kX12_issues_0 40 rfl) rfl 1 rfl rfl ?_
                refine j_iload_n (q := 69) hx (dc kX12_issues_0 41 rfl) rfl 2 rfl rfl ?_
                refine j_iload (q := 71) hx (dc kX12_issues_0 42 rfl) 0 rfl rfl ?_
                refine w_cVIR (q := 74) (As := [.int x1, .int (x3 ^^^ ((1 : Int32) <<< (x4 &&& 31)))]) (st := [.int v9, .int x2]) hx (dc kX12_issues_0 43 rfl) cf12 (by decide) rfl (cI _ my_X12_isWon lm_X12_416 (by decide)) vs_X12_isWon rfl (fun u hu => sX12_isWon _ _ _ _ _ _ _ hu) (fun e => ite_ne (by unfold mX12_isWon at e; exact e)) (sum_le (sum_I (sum_I sum_nil)) (by decide)) rfl (fun v11 => ?_)
                refine j_icmp_eq (q := 77) (tgt := 84) hx (dc kX12_issues_0 44 rfl) (by decide) Iff.rfl rfl ?_ ?_
                · exact j_sub [1, 2, 4, 5] rfl (hb84 x0 x1 x3 x4 x2)
                · refine j_iconst (q := 78) (v := (1 : Int32)) hx (dc kX12_issues_0 45 rfl) (by decide) rfl ?_
                  refine j_iload (q := 80) hx (dc kX12_issues_0 46 rfl) 5 rfl rfl ?_
                  refine j_ishl (q := 81) hx (dc kX12_issues_0 47 rfl) rfl ?_
                  refine j_goto (q := 85) hx (dc kX12_issues_0 48 rfl) (by decide) ?_
                  exact j_sub [1, 2, 4, 5] rfl (hb85 x0 x1 x3 x4 x2 ((1 : Int32) <<< (x4 &&& 31)))
        exact j_loop (S := (Int32 × Int32)) (lvf := fun s => [(0, vR x.2.2.2 x0), (1, .int x1), (2, .int s.1), (3, .int x3), (4, .int s.2)]) (hpf := fun s => h) (f := (fun s : (Int32 × Int32) => mX12_issues_l24f x0 x1 x3 h s.1 s.2)) (fun s => hB s.1 s.2) (x2, x4)
      unfold mX12_issues_l14f
      refine j_iload_n (q := 15) hx (dc kX12_issues_0 10 rfl) rfl 3 rfl rfl ?_
      refine j_sipush (q := 18) (v := (256 : Int32)) hx (dc kX12_issues_0 11 rfl) (by decide) rfl ?_
      refine j_icmp_geS (q := 21) (tgt := 99) hx (dc kX12_issues_0 12 rfl) (by decide) rfl ?_ ?_
      · refine j_exit ?_
        refine j_iload_n (q := 100) hx (dc kX12_issues_0 56 rfl) rfl 2 rfl rfl ?_
        exact r_iR hx hR (dc kX12_issues_0 57 rfl)
      · refine j_iconst (q := 22) (v := (0 : Int32)) hx (dc kX12_issues_0 13 rfl) (by decide) rfl ?_
        refine j_istore (q := 24) (i := 4) (l2 := [(0, vR x.2.2.2 x0), (1, .int x1), (2, .int x2), (3, .int x3)]) hx (dc kX12_issues_0 14 rfl) (hn 4 (by decide)) [0, 1, 2, 3] rfl ⟨⟨show (0 : Nat) ≠ 4 by decide, Or.inl (show (0 : Nat) + 1 ≠ 4 by decide)⟩, ⟨⟨show (1 : Nat) ≠ 4 by decide, Or.inl (show (1 : Nat) + 1 ≠ 4 by decide)⟩, ⟨⟨show (2 : Nat) ≠ 4 by decide, Or.inl (show (2 : Nat) + 1 ≠ 4 by decide)⟩, ⟨⟨show (3 : Nat) ≠ 4 by decide, Or.inr rfl⟩, trivial⟩⟩⟩⟩ rfl ?_
        exact j_sub [1, 2, 3, 4, 0] rfl (hb24 x0 x1 x2 x3 (0 : Int32))
    exact j_loop (S := (Int32 × Int32)) (lvf := fun s => [(0, vR x.2.2.2 x0), (1, .int x1), (2, .int s.1), (3, .int s.2)]) (hpf := fun s => h) (f := (fun s : (Int32 × Int32) => mX12_issues_l14f x0 x1 h s.1 s.2)) (fun s => hB s.1 s.2) (x2, x3)
  unfold mX12_issues
  refine J.ckd fun hck => ?_
  refine j_aload_n (q := 1) hx (dc kX12_issues_0 0 rfl) rfl 0 rfl rfl ?_
  refine j_iload_n (q := 2) hx (dc kX12_issues_0 1 rfl) rfl 1 rfl rfl ?_
  refine w_cVIR (q := 5) (As := [.int x1]) (st := []) hx (dc kX12_issues_0 2 rfl) cf12 (by decide) rfl (cI _ my_X12_isCount lm_X12_380 (by decide)) vs_X12_isCount rfl (fun u hu => sX12_isCount _ _ _ _ _ _ hu) (fun e => ite_ne (by unfold mX12_isCount at e; exact e)) (Nat.zero_le _) rfl (fun v1 => ?_)
  refine j_if_neS (q := 8) (tgt := 10) hx (dc kX12_issues_0 3 rfl) (by decide) rfl ?_ ?_
  · refine j_iconst (q := 11) (v := (0 : Int32)) hx (dc kX12_issues_0 6 rfl) (by decide) rfl ?_
    refine j_istore_n (q := 12) (i := 2) (l2 := [(0, vR x.2.2.2 x0), (1, .int x1)]) hx (dc kX12_issues_0 7 rfl) rfl (hn 2 (by decide)) [0, 1] rfl ⟨⟨show (0 : Nat) ≠ 2 by decide, Or.inl (show (0 : Nat) + 1 ≠ 2 by decide)⟩, ⟨⟨show (1 : Nat) ≠ 2 by decide, Or.inr rfl⟩, trivial⟩⟩ rfl ?_
    refine j_iconst (q := 13) (v := (0 : Int32)) hx (dc kX12_issues_0 8 rfl) (by decide) rfl ?_
    refine j_istore_n (q := 14) (i := 3) (l2 := [(2, .int (0 : Int32)), (0, vR x.2.2.2 x0), (1, .int x1)]) hx (dc kX12_issues_0 9 rfl) rfl (hn 3 (by decide)) [0, 1, 2] rfl ⟨⟨show (2 : Nat) ≠ 3 by decide, Or.inr rfl⟩, ⟨⟨show (0 : Nat) ≠ 3 by decide, Or.inl (show (0 : Nat) + 1 ≠ 3 by decide)⟩, ⟨⟨show (1 : Nat) ≠ 3 by decide, Or.inl (show (1 : Nat) + 1 ≠ 3 by decide)⟩, trivial⟩⟩⟩ rfl ?_
    exact j_sub [2, 3, 1, 0] rfl (hb14 x0 x1 (0 : Int32) (0 : Int32))
  · refine j_iconst (q := 9) (v := (-1 : Int32)) hx (dc kX12_issues_0 4 rfl) (by decide) rfl ?_
    exact r_iR hx hR (dc kX12_issues_0 5 rfl)

set_option maxHeartbeats 4000000 in
set_option maxRecDepth 100000 in
theorem sX12_judged (l : Launch) (w : Wd) (x0 : Nat) (x1 : Int32) (h : Hp) (u : (Int32 × Hp)) (hK : mX12_judged x0 x1 h = some u) : M1 l w mi_X12_judged 4 [vR w x0, .int x1] h u.2 (some (.int u.1)) := by
  refine M1.of (own := RX12) (T := fun _ r => r = u) hK (by decide +kernel) rfl (by first | (simp only [lg_lenR, lg_lenI, lg_lenL, lg_len0]; decide) | decide) (fun x hx hnl hhf hl hw hret hnm hQ h0e => ⟨?_, rfl⟩)
  subst hw
  subst hl
  have hR : Rt x h u.2 (some (.int u.1)) ((some .int)) := ⟨h0e, hhf, hret, hQ⟩
  have hn : ∀ i, i < 2 → i < x.2.2.1.1.1 := fun i hi => by rw [hnl]; exact hi
  have e0 : lv_args 0 [vR x.2.2.2 x0, .int x1] = [(0, vR x.2.2.2 x0), (1, .int x1)] := by simp only [lv_argsR, lv_argsI, lv_argsL, lv_args0]
  rw [e0]
  unfold mX12_judged
  refine J.ckd fun hck => ?_
  refine j_aload_n (q := 1) hx (dc kX12_judged_0 0 rfl) rfl 0 rfl rfl ?_
  refine j_iload_n (q := 2) hx (dc kX12_judged_0 1 rfl) rfl 1 rfl rfl ?_
  refine w_cVIR (q := 5) (As := [.int x1]) (st := []) hx (dc kX12_judged_0 2 rfl) cf12 (by decide) rfl (cI _ my_X12_isCount lm_X12_380 (by decide)) vs_X12_isCount rfl (fun u hu => sX12_isCount _ _ _ _ _ _ hu) (fun e => ite_ne (by unfold mX12_isCount at e; exact e)) (Nat.zero_le _) rfl (fun v1 => ?_)
  refine j_if_neS (q := 8) (tgt := 10) hx (dc kX12_judged_0 3 rfl) (by decide) rfl ?_ ?_
  · refine j_aload_n (q := 11) hx (dc kX12_judged_0 6 rfl) rfl 0 rfl rfl ?_
    refine j_iload_n (q := 12) hx (dc kX12_judged_0 7 rfl) rfl 1 rfl rfl ?_
    refine w_cVVW (q := 15) (As := [.int x1]) (st := []) hx (dc kX12_judged_0 8 rfl) cf12 (by decide) rfl (cI _ my_X12_laysWays lm_X12_441 (by decide)) vs_X12_laysWays rfl (fun u hu => sX12_laysWays _ _ _ _ _ _ hu) (fun e => ite_ne (by unfold mX12_laysWays at e; exact e)) (Nat.zero_le _) rfl (fun h4 => ?_)
    refine j_aload_n (q := 16) hx (dc kX12_judged_0 9 rfl) rfl 0 rfl rfl ?_
    refine w_gR (q := 19) hx (dc kX12_judged_0 10 rfl) ff_X12_34 lk_X12_70 rfl (fun v5 => ?_)
    refine j_iconst (q := 20) (v := (0 : Int32)) hx (dc kX12_judged_0 11 rfl) (by decide) rfl ?_
    refine j_ldI (q := 21) hx (dc kX12_judged_0 12 rfl) rfl (fun v6 => ?_)
    refine j_if_neS (q := 24) (tgt := 28) hx (dc kX12_judged_0 13 rfl) (by decide) rfl ?_ ?_
    · refine j_aload_n (q := 29) hx (dc kX12_judged_0 16 rfl) rfl 0 rfl rfl ?_
      refine w_gR (q := 32) hx (dc kX12_judged_0 17 rfl) ff_X12_34 lk_X12_70 rfl (fun v7 => ?_)
      refine j_iconst (q := 33) (v := (0 : Int32)) hx (dc kX12_judged_0 18 rfl) (by decide) rfl ?_
      refine j_ldI (q := 34) hx (dc kX12_judged_0 19 rfl) rfl (fun v8 => ?_)
      refine j_aload_n (q := 35) hx (dc kX12_judged_0 20 rfl) rfl 0 rfl rfl ?_
      refine w_gR (q := 38) hx (dc kX12_judged_0 21 rfl) ff_X12_33 lk_X12_67 rfl (fun v9 => ?_)
      refine j_iconst (q := 39) (v := (0 : Int32)) hx (dc kX12_judged_0 22 rfl) (by decide) rfl ?_
      refine j_ldI (q := 40) hx (dc kX12_judged_0 23 rfl) rfl (fun v10 => ?_)
      refine j_icmp_neS (q := 43) (tgt := 47) hx (dc kX12_judged_0 24 rfl) (by decide) rfl ?_ ?_
      · refine j_iconst (q := 48) (v := (2 : Int32)) hx (dc kX12_judged_0 27 rfl) (by decide) rfl ?_
        exact r_iW hx hR (dc kX12_judged_0 28 rfl)
      · refine j_iconst (q := 44) (v := (1 : Int32)) hx (dc kX12_judged_0 25 rfl) (by decide) rfl ?_
        refine j_goto (q := 48) hx (dc kX12_judged_0 26 rfl) (by decide) ?_
        exact r_iW hx hR (dc kX12_judged_0 28 rfl)
    · refine j_iconst (q := 25) (v := (0 : Int32)) hx (dc kX12_judged_0 14 rfl) (by decide) rfl ?_
      refine j_goto (q := 48) hx (dc kX12_judged_0 15 rfl) (by decide) ?_
      exact r_iW hx hR (dc kX12_judged_0 28 rfl)
  · refine j_iconst (q := 9) (v := (-1 : Int32)) hx (dc kX12_judged_0 4 rfl) (by decide) rfl ?_
    exact r_iW hx hR (dc kX12_judged_0 5 rfl)

set_option maxHeartbeats 4000000 in
set_option maxRecDepth 100000 in
theorem sX12_triedBy (l : Launch) (w : Wd) (x0 : Nat) (x1 : Int32) (x2 : Int32) (h : Hp) (u : Int32) (hK : mX12_triedBy x0 x1 x2 h = some u) : M1 l w mi_X12_triedBy 1 [vR w x0, .int x1, .int x2] h h (some (.int u)) := by
  refine M1.of (own := RX12) (T := fun _ r => r = u) hK (by decide +kernel) rfl (by first | (simp only [lg_lenR, lg_lenI, lg_lenL, lg_len0]; decide) | decide) (fun x hx hnl hhf hl hw hret hnm hQ h0e => ⟨?_, rfl⟩)
  subst hw
  subst hl
  have hR : Rt x h h (some (.int u)) ((some .int)) := ⟨h0e, hhf, hret, hQ⟩
  have hn : ∀ i, i < 6 → i < x.2.2.1.1.1 := fun i hi => by rw [hnl]; exact hi
  have e0 : lv_args 0 [vR x.2.2.2 x0, .int x1, .int x2] = [(0, vR x.2.2.2 x0), (1, .int x1), (2, .int x2)] := by simp only [lv_argsR, lv_argsI, lv_argsL, lv_args0]
  rw [e0]
  have hb5 : ∀ (x0 : Nat) (x1 : Int32) (x2 : Int32) (x3 : Int32) (x4 : Int32), J x 5 [(0, vR x.2.2.2 x0), (1, .int x1), (2, .int x2), (3, .int x3), (4, .int x4)] [] h (mX12_triedBy_l5 x0 x1 x2 x3 x4 h) (fun r => r = u) := by
    intro x0 x1 x2 x3 x4
    have hB : ∀ (x3 : Int32) (x4 : Int32), J x 5 [(0, vR x.2.2.2 x0), (1, .int x1), (2, .int x2), (3, .int x3), (4, .int x4)] [] h (mX12_triedBy_l5f x0 x1 x2 h x3 x4) (TL (S := (Int32 × Int32)) x 5 (fun s => [(0, vR x.2.2.2 x0), (1, .int x1), (2, .int x2), (3, .int s.1), (4, .int s.2)]) [] (fun s => h) (fun r => r = u)) := by
      intro x3 x4
      have hb48 : ∀ (x0 : Nat) (x1 : Int32) (x2 : Int32) (x4 : Int32) (t0 : Int32), J x 48 [(0, vR x.2.2.2 x0), (1, .int x1), (2, .int x2), (4, .int x4)] [.int t0] h (mX12_triedBy_b48 x0 x1 x2 x4 t0 h) (TL (S := (Int32 × Int32)) x 5 (fun s => [(0, vR x.2.2.2 x0), (1, .int x1), (2, .int x2), (3, .int s.1), (4, .int s.2)]) [] (fun s => h) (fun r => r = u)) := by
        intro x0 x1 x2 x4 t0
        unfold mX12_triedBy_b48
        refine j_istore_n (q := 49) (i := 3) (l2 := [(0, vR x.2.2.2 x0), (1, .int x1), (2, .int x2), (4, .int x4)]) hx (dc kX12_triedBy_0 28 rfl) rfl (hn 3 (by decide)) [0, 1, 2, 3] rfl ⟨⟨show (0 : Nat) ≠ 3 by decide, Or.inl (show (0 : Nat) + 1 ≠ 3 by decide)⟩, ⟨⟨show (1 : Nat) ≠ 3 by decide, Or.inl (show (1 : Nat) + 1 ≠ 3 by decide)⟩, ⟨⟨show (2 : Nat) ≠ 3 by decide, Or.inr rfl⟩, ⟨⟨show (4 : Nat) ≠ 3 by decide, Or.inl (show (4 : Nat) + 1 ≠ 3 by decide)⟩, trivial⟩⟩⟩⟩ rfl ?_
        refine j_iinc (q := 52) (l2 := [(3, .int t0), (0, vR x.2.2.2 x0), (1, .int x1), (2, .int x2)]) hx (dc kX12_triedBy_0 29 rfl) 4 rfl (v := (1 : Int32)) (by decide) (hn 4 (by decide)) [0, 1, 2, 3] rfl ⟨⟨show (3 : Nat) ≠ 4 by decide, Or.inr rfl⟩, ⟨⟨show (0 : Nat) ≠ 4 by decide, Or.inl (show (0 : Nat) + 1 ≠ 4 by decide)⟩, ⟨⟨show (1 : Nat) ≠ 4 by decide, Or.inl (show (1 : Nat) + 1 ≠ 4 by decide)⟩, ⟨⟨show (2 : Nat) ≠ 4 by decide, Or.inl (show (2 : Nat) + 1 ≠ 4 by decide)⟩, trivial⟩⟩⟩⟩ rfl ?_
        refine j_goto (q := 5) hx (dc kX12_triedBy_0 30 rfl) (by decide) ?_
        exact j_back [2, 3, 4, 1, 0] (t0, (x4 + (1 : Int32))) rfl rfl
      unfold mX12_triedBy_l5f
      refine j_iload (q := 7) hx (dc kX12_triedBy_0 4 rfl) 4 rfl rfl ?_
      refine j_iconst (q := 8) (v := (3 : Int32)) hx (dc kX12_triedBy_0 5 rfl) (by decide) rfl ?_
      refine j_icmp_geS (q := 11) (tgt := 55) hx (dc kX12_triedBy_0 6 rfl) (by decide) rfl ?_ ?_
      · refine j_exit ?_
        refine j_iconst (q := 56) (v := (1 : Int32)) hx (dc kX12_triedBy_0 31 rfl) (by decide) rfl ?_
        refine j_iload_n (q := 57) hx (dc kX12_triedBy_0 32 rfl) rfl 3 rfl rfl ?_
        refine j_iadd (q := 58) hx (dc kX12_triedBy_0 33 rfl) rfl ?_
        exact r_iR hx hR (dc kX12_triedBy_0 34 rfl)
      · refine j_iload_n (q := 12) hx (dc kX12_triedBy_0 7 rfl) rfl 1 rfl rfl ?_
        refine j_iload (q := 14) hx (dc kX12_triedBy_0 8 rfl) 4 rfl rfl ?_
        refine j_gs (a := 3) (q := 17) hx (dc kX12_triedBy_0 9 rfl) gs_X12_432 gz_3 rfl ?_
        refine j_iload_n (q := 18) hx (dc kX12_triedBy_0 10 rfl) rfl 2 rfl rfl ?_
        refine j_ldI (q := 19) hx (dc kX12_triedBy_0 11 rfl) rfl (fun v1 => ?_)
        refine j_imul (q := 20) hx (dc kX12_triedBy_0 12 rfl) rfl ?_
        refine j_iadd (q := 21) hx (dc kX12_triedBy_0 13 rfl) rfl ?_
        refine j_istore (q := 23) (i := 5) (l2 := [(0, vR x.2.2.2 x0), (1, .int x1), (2, .int x2), (3, .int x3), (4, .int x4)]) hx (dc kX12_triedBy_0 14 rfl) (hn 5 (by decide)) [0, 1, 2, 3, 4] rfl ⟨⟨show (0 : Nat) ≠ 5 by decide, Or.inl (show (0 : Nat) + 1 ≠ 5 by decide)⟩, ⟨⟨show (1 : Nat) ≠ 5 by decide, Or.inl (show (1 : Nat) + 1 ≠ 5 by decide)⟩, ⟨⟨show (2 : Nat) ≠ 5 by decide, Or.inl (show (2 : Nat) + 1 ≠ 5 by decide)⟩, ⟨⟨show (3 : Nat) ≠ 5 by decide, Or.inl (show (3 : Nat) + 1 ≠ 5 by decide)⟩, ⟨⟨show (4 : Nat) ≠ 5 by decide, Or.inr rfl⟩, trivial⟩⟩⟩⟩⟩ rfl ?_
        refine j_aload_n (q := 24) hx (dc kX12_triedBy_0 15 rfl) rfl 1 rfl rfl ?_
        refine w_gR (q := 27) hx (dc kX12_triedBy_0 16 rfl) ff_X12_33 lk_X12_67 rfl (fun v2 => ?_)
        refine j_iload (q := 29) hx (dc kX12_triedBy_0 17 rfl) 0 rfl rfl ?_
        refine j_ldI (q := 30) hx (dc kX12_triedBy_0 18 rfl) rfl (fun v3 => ?_)
        refine j_if_leS (q := 33) (tgt := 47) hx (dc kX12_triedBy_0 19 rfl) (by decide) rfl ?_ ?_
        · refine j_iload_n (q := 48) hx (dc kX12_triedBy_0 27 rfl) rfl 4 rfl rfl ?_
          exact j_sub [1, 2, 3, 5] rfl (hb48 x0 x1 x2 x4 x3)
        · refine j_iload_n (q := 34) hx (dc kX12_triedBy_0 20 rfl) rfl 4 rfl rfl ?_
          refine j_aload_n (q := 35) hx (dc kX12_triedBy_0 21 rfl) rfl 1 rfl rfl ?_
          refine w_gR (q := 38) hx (dc kX12_triedBy_0 22 rfl) ff_X12_35 lk_X12_73 rfl (fun v4 => ?_)
          refine j_iload (q := 40) hx (dc kX12_triedBy_0 23 rfl) 0 rfl rfl ?_
          refine j_ldI (q := 41) hx (dc kX12_triedBy_0 24 rfl) rfl (fun v5 => ?_)
          refine w_mmax (q := 44) hx (dc kX12_triedBy_0 25 rfl) lm_X12_444 ms_mmax ms_init mc_mmax (by decide) (Nat.zero_le _) rfl ?_
          refine j_goto (q := 48) hx (dc kX12_triedBy_0 26 rfl) (by decide) ?_
          exact j_sub [1, 2, 3, 5] rfl (hb48 x0 x1 x2 x4 (mmax x3 v5))
    exact j_loop (S := (Int32 × Int32)) (lvf := fun s => [(0, vR x.2.2.2 x0), (1, .int x1), (2, .int x2), (3, .int s.1), (4, .int s.2)]) (hpf := fun s => h) (f := (fun s : (Int32 × Int32) => mX12_triedBy_l5f x0 x1 x2 h s.1 s.2)) (fun s => hB s.1 s.2) (x3, x4)
  unfold mX12_triedBy
  refine J.ckd fun hck => ?_
  refine j_iconst (q := 1) (v := (0 : Int32)) hx (dc kX12_triedBy_0 0 rfl) (by decide) rfl ?_
  refine j_istore_n (q := 2) (i := 3) (l2 := [(0, vR x.2.2.2 x0), (1, .int x1), (2, .int x2)]) hx (dc kX12_triedBy_0 1 rfl) rfl (hn 3 (by decide)) [0, 1, 2] rfl ⟨⟨show (0 : Nat) ≠ 3 by decide, Or.inl (show (0 : Nat) + 1 ≠ 3 by decide)⟩, ⟨⟨show (1 : Nat) ≠ 3 by decide, Or.inl (show (1 : Nat) + 1 ≠ 3 by decide)⟩, ⟨⟨show (2 : Nat) ≠ 3 by decide, Or.inr rfl⟩, trivial⟩⟩⟩ rfl ?_
  refine j_iconst (q := 3) (v := (1 : Int32)) hx (dc kX12_triedBy_0 2 rfl) (by decide) rfl ?_
  refine j_istore (q := 5) (i := 4) (l2 := [(3, .int (0 : Int32)), (0, vR x.2.2.2 x0), (1, .int x1), (2, .int x2)]) hx (dc kX12_triedBy_0 3 rfl) (hn 4 (by decide)) [0, 1, 2, 3] rfl ⟨⟨show (3 : Nat) ≠ 4 by decide, Or.inr rfl⟩, ⟨⟨show (0 : Nat) ≠ 4 by decide, Or.inl (show (0 : Nat) + 1 ≠ 4 by decide)⟩, ⟨⟨show (1 : Nat) ≠ 4 by decide, Or.inl (show (1 : Nat) + 1 ≠ 4 by decide)⟩, ⟨⟨show (2 : Nat) ≠ 4 by decide, Or.inl (show (2 : Nat) + 1 ≠ 4 by decide)⟩, trivial⟩⟩⟩⟩ rfl ?_
  exact j_sub [2, 3, 4, 1, 0] rfl (hb5 x0 x1 x2 (0 : Int32) (1 : Int32))

set_option maxHeartbeats 4000000 in
set_option maxRecDepth 100000 in
theorem sX12_laysTrials (l : Launch) (w : Wd) (x0 : Nat) (h : Hp) (u : Hp) (hK : mX12_laysTrials x0 h = some u) : M1 l w mi_X12_laysTrials 3 [vR w x0] h u (none) := by
  refine M1.of (own := RX12) (T := fun _ r => r = u) hK (by decide +kernel) rfl (by first | (simp only [lg_lenR, lg_lenI, lg_lenL, lg_len0]; decide) | decide) (fun x hx hnl hhf hl hw hret hnm hQ h0e => ⟨?_, rfl⟩)
  subst hw
  subst hl
  have hR : Rt x h u (none) (none) := ⟨h0e, hhf, hret, hQ⟩
  have hn : ∀ i, i < 3 → i < x.2.2.1.1.1 := fun i hi => by rw [hnl]; exact hi
  have e0 : lv_args 0 [vR x.2.2.2 x0] = [(0, vR x.2.2.2 x0)] := by simp only [lv_argsR, lv_argsI, lv_argsL, lv_args0]
  rw [e0]
  have hb13 : ∀ (x0 : Nat) (x1 : Int32) (h : Hp), J x 13 [(0, vR x.2.2.2 x0), (1, .int x1)] [] h (mX12_laysTrials_l13 x0 x1 h) (fun r => r = u) := by
    intro x0 x1 h
    have hB : ∀ (x1 : Int32) (h : Hp), J x 13 [(0, vR x.2.2.2 x0), (1, .int x1)] [] h (mX12_laysTrials_l13f x0 x1 h) (TL (S := (Int32 × Hp)) x 13 (fun s => [(0, vR x.2.2.2 x0), (1, .int s.1)]) [] (fun s => s.2) (fun r => r = u)) := by
      intro x1 h
      have hb129 : ∀ (x0 : Nat) (x1 : Int32) (h : Hp), J x 129 [(0, vR x.2.2.2 x0), (1, .int x1)] [] h (mX12_laysTrials_b129 x0 x1 h) (TL (S := (Int32 × Hp)) x 13 (fun s => [(0, vR x.2.2.2 x0), (1, .int s.1)]) [] (fun s => s.2) (fun r => r = u)) := by
        intro x0 x1 h
        unfold mX12_laysTrials_b129
        refine j_iinc (q := 132) (l2 := [(0, vR x.2.2.2 x0)]) hx (dc kX12_laysTrials_1 14 rfl) 1 rfl (v := (-1 : Int32)) (by decide) (hn 1 (by decide)) [0] rfl ⟨⟨show (0 : Nat) ≠ 1 by decide, Or.inr (vR_cat _ _)⟩, trivial⟩ rfl ?_
        refine j_goto (q := 13) hx (dc kX12_laysTrials_1 15 rfl) (by decide) ?_
        exact j_back [1, 0] ((x1 + (-1 : Int32)), h) rfl rfl
      have hb60 : ∀ (x0 : Nat) (x1 : Int32) (x2 : Int32) (h : Hp), J x 60 [(0, vR x.2.2.2 x0), (1, .int x1), (2, .int x2)] [] h (mX12_laysTrials_l60 x0 x1 x2 h) (TL (S := (Int32 × Hp)) x 13 (fun s => [(0, vR x.2.2.2 x0), (1, .int s.1)]) [] (fun s => s.2) (fun r => r = u)) := by
        intro x0 x1 x2 h
        have hB : ∀ (x2 : Int32) (h : Hp), J x 60 [(0, vR x.2.2.2 x0), (1, .int x1), (2, .int x2)] [] h (mX12_laysTrials_l60f x0 x1 x2 h) (TL (S := (Int32 × Hp)) x 60 (fun s => [(0, vR x.2.2.2 x0), (1, .int x1), (2, .int s.1)]) [] (fun s => s.2) (TL (S := (Int32 × Hp)) x 13 (fun s => [(0, vR x.2.2.2 x0), (1, .int s.1)]) [] (fun s => s.2) (fun r => r = u))) := by
          intro x2 h
          have hb116 : ∀ (x0 : Nat) (x1 : Int32) (x2 : Int32) (t0 : Nat) (t1 : Int32) (t2 : Int32) (h : Hp), J x 116 [(0, vR x.2.2.2 x0), (1, .int x1), (2, .int x2)] [.int t2, .int t1, vR x.2.2.2 t0] h (mX12_laysTrials_b116 x0 x1 x2 t0 t1 t2 h) (TL (S := (Int32 × Hp)) x 60 (fun s => [(0, vR x.2.2.2 x0), (1, .int x1), (2, .int s.1)]) [] (fun s => s.2) (TL (S := (Int32 × Hp)) x 13 (fun s => [(0, vR x.2.2.2 x0), (1, .int s.1)]) [] (fun s => s.2) (fun r => r = u))) := by
            intro x0 x1 x2 t0 t1 t2 h
            unfold mX12_laysTrials_b116
            refine w_stI (q := 117) hx (dc kX12_laysTrials_1 5 rfl) rfl (fun h21 => ?_)
            refine j_aload_n (q := 118) hx (dc kX12_laysTrials_1 6 rfl) rfl 0 rfl rfl ?_
            refine j_iload_n (q := 119) hx (dc kX12_laysTrials_1 7 rfl) rfl 1 rfl rfl ?_
            refine j_iload_n (q := 120) hx (dc kX12_laysTrials_1 8 rfl) rfl 2 rfl rfl ?_
            refine j_iconst (q := 121) (v := (1 : Int32)) hx (dc kX12_laysTrials_1 9 rfl) (by decide) rfl ?_
            refine j_iadd (q := 122) hx (dc kX12_laysTrials_1 10 rfl) rfl ?_
            refine w_cVIR (q := 125) (As := [.int x1, .int (x2 + (1 : Int32))]) (st := []) hx (dc kX12_laysTrials_1 11 rfl) cf12 (by decide) rfl (cI _ my_X12_untold lm_X12_438 (by decide)) vs_X12_untold rfl (fun u hu => sX12_untold _ _ _ _ _ _ _ hu) (fun e => ite_ne (by unfold mX12_untold at e; exact e)) (Nat.zero_le _) rfl (fun v22 => ?_)
            refine j_istore_n (q := 126) (i := 2) (l2 := [(0, vR x.2.2.2 x0), (1, .int x1)]) hx (dc kX12_laysTrials_1 12 rfl) rfl (hn 2 (by decide)) [0, 1] rfl ⟨⟨show (0 : Nat) ≠ 2 by decide, Or.inl (show (0 : Nat) + 1 ≠ 2 by decide)⟩, ⟨⟨show (1 : Nat) ≠ 2 by decide, Or.inr rfl⟩, trivial⟩⟩ rfl ?_
            refine j_goto (q := 60) hx (dc kX12_laysTrials_1 13 rfl) (by decide) ?_
            exact j_back [1, 2, 0] (v22, h21) rfl rfl
          unfold mX12_laysTrials_l60f
          refine j_iload_n (q := 61) hx (dc kX12_laysTrials_0 37 rfl) rfl 2 rfl rfl ?_
          refine j_aload_n (q := 62) hx (dc kX12_laysTrials_0 38 rfl) rfl 0 rfl rfl ?_
          refine w_gR (q := 65) hx (dc kX12_laysTrials_0 39 rfl) ff_X12_0 lk_X12_7 rfl (fun v10 => ?_)
          refine j_iconst (q := 66) (v := (1 : Int32)) hx (dc kX12_laysTrials_0 40 rfl) (by decide) rfl ?_
          refine j_ldI (q := 67) hx (dc kX12_laysTrials_0 41 rfl) rfl (fun v11 => ?_)
          refine j_icmp_geS (q := 70) (tgt := 129) hx (dc kX12_laysTrials_0 42 rfl) (by decide) rfl ?_ ?_
          · refine j_exit ?_
            exact j_sub [0, 1] rfl (hb129 x0 x1 h)
          · refine j_aload_n (q := 71) hx (dc kX12_laysTrials_0 43 rfl) rfl 0 rfl rfl ?_
            refine w_gR (q := 74) hx (dc kX12_laysTrials_0 44 rfl) ff_X12_35 lk_X12_73 rfl (fun v12 => ?_)
            refine j_iload_n (q := 75) hx (dc kX12_laysTrials_0 45 rfl) rfl 1 rfl rfl ?_
            refine j_ldI (q := 76) hx (dc kX12_laysTrials_0 46 rfl) rfl (fun v13 => ?_)
            refine j_if_leS (q := 79) (tgt := 129) hx (dc kX12_laysTrials_0 47 rfl) (by decide) rfl ?_ ?_
            · refine j_exit ?_
              exact j_sub [0, 1] rfl (hb129 x0 x1 h)
            · refine j_aload_n (q := 80) hx (dc kX12_laysTrials_0 48 rfl) rfl 0 rfl rfl ?_
              refine w_gR (q := 83) hx (dc kX12_laysTrials_0 49 rfl) ff_X12_35 lk_X12_73 rfl (fun v14 => ?_)
              refine j_iload_n (q := 84) hx (dc kX12_laysTrials_0 50 rfl) rfl 1 rfl rfl ?_
              refine j_aload_n (q := 85) hx (dc kX12_laysTrials_0 51 rfl) rfl 0 rfl rfl ?_
              refine j_iload_n (q := 86) hx (dc kX12_laysTrials_0 52 rfl) rfl 2 rfl rfl ?_
              refine w_cVIR (q := 89) (As := [.int x2]) (st := [.int x1, vR x.2.2.2 v14]) hx (dc kX12_laysTrials_0 53 rfl) cf12 (by decide) rfl (cI _ my_X12_isKnown lm_X12_326 (by decide)) vs_X12_isKnown rfl (fun u hu => sX12_isKnown _ _ _ _ _ _ hu) (fun e => ite_ne (by unfold mX12_isKnown at e; exact e)) (sum_le (sum_I (sum_R sum_nil)) (by decide)) rfl (fun v15 => ?_)
              refine j_if_eq (q := 92) (tgt := 101) hx (dc kX12_laysTrials_0 54 rfl) (by decide) Iff.rfl rfl ?_ ?_
              · refine j_aload_n (q := 102) hx (dc kX12_laysTrials_0 60 rfl) rfl 0 rfl rfl ?_
                refine w_gR (q := 105) hx (dc kX12_laysTrials_0 61 rfl) ff_X12_35 lk_X12_73 rfl (fun v17 => ?_)
                refine j_iload_n (q := 106) hx (dc kX12_laysTrials_0 62 rfl) rfl 1 rfl rfl ?_
                refine j_ldI (q := 107) hx (dc kX12_laysTrials_0 63 rfl) rfl (fun v18 => ?_)
                refine j_aload_n (q := 108) hx (dc kX12_laysTrials_1 0 rfl) rfl 0 rfl rfl ?_
                refine j_iload_n (q := 109) hx (dc kX12_laysTrials_1 1 rfl) rfl 1 rfl rfl ?_
                refine j_iload_n (q := 110) hx (dc kX12_laysTrials_1 2 rfl) rfl 2 rfl rfl ?_
                refine w_cVIR (q := 113) (As := [.int x1, .int x2]) (st := [.int v18, .int x1, vR x.2.2.2 v14]) hx (dc kX12_laysTrials_1 3 rfl) cf12 (by decide) rfl (cI _ my_X12_triedBy lm_X12_447 (by decide)) vs_X12_triedBy rfl (fun u hu => sX12_triedBy _ _ _ _ _ _ _ hu) (fun e => ite_ne (by unfold mX12_triedBy at e; exact e)) (sum_le (sum_I (sum_I (sum_R sum_nil))) (by decide)) rfl (fun v19 => ?_)
                refine w_mmin (q := 116) hx (dc kX12_laysTrials_1 4 rfl) lm_X12_345 ms_mmin ms_init mc_mmin (by decide) (sum_le (sum_I (sum_R sum_nil)) (by decide)) rfl ?_
                exact hb116 x0 x1 x2 v14 x1 (mmin v18 v19) h
              · refine j_aload_n (q := 93) hx (dc kX12_laysTrials_0 55 rfl) rfl 0 rfl rfl ?_
                refine w_gR (q := 96) hx (dc kX12_laysTrials_0 56 rfl) ff_X12_35 lk_X12_73 rfl (fun v24 => ?_)
                refine j_iload_n (q := 97) hx (dc kX12_laysTrials_0 57 rfl) rfl 1 rfl rfl ?_
                refine j_ldI (q := 98) hx (dc kX12_laysTrials_0 58 rfl) rfl (fun v25 => ?_)
                refine j_goto (q := 116) hx (dc kX12_laysTrials_0 59 rfl) (by decide) ?_
                exact hb116 x0 x1 x2 v14 x1 v25 h
        exact j_loop (S := (Int32 × Hp)) (lvf := fun s => [(0, vR x.2.2.2 x0), (1, .int x1), (2, .int s.1)]) (hpf := fun s => s.2) (f := (fun s : (Int32 × Hp) => mX12_laysTrials_l60f x0 x1 s.1 s.2)) (fun s => hB s.1 s.2) (x2, h)
      have hb52 : ∀ (x0 : Nat) (x1 : Int32) (t0 : Nat) (t1 : Int32) (t2 : Int32) (h : Hp), J x 52 [(0, vR x.2.2.2 x0), (1, .int x1)] [.int t2, .int t1, vR x.2.2.2 t0] h (mX12_laysTrials_b52 x0 x1 t0 t1 t2 h) (TL (S := (Int32 × Hp)) x 13 (fun s => [(0, vR x.2.2.2 x0), (1, .int s.1)]) [] (fun s => s.2) (fun r => r = u)) := by
        intro x0 x1 t0 t1 t2 h
        unfold mX12_laysTrials_b52
        refine w_stI (q := 53) hx (dc kX12_laysTrials_0 31 rfl) rfl (fun h7 => ?_)
        refine j_aload_n (q := 54) hx (dc kX12_laysTrials_0 32 rfl) rfl 0 rfl rfl ?_
        refine j_iload_n (q := 55) hx (dc kX12_laysTrials_0 33 rfl) rfl 1 rfl rfl ?_
        refine j_iconst (q := 56) (v := (0 : Int32)) hx (dc kX12_laysTrials_0 34 rfl) (by decide) rfl ?_
        refine w_cVIR (q := 59) (As := [.int x1, .int (0 : Int32)]) (st := []) hx (dc kX12_laysTrials_0 35 rfl) cf12 (by decide) rfl (cI _ my_X12_untold lm_X12_438 (by decide)) vs_X12_untold rfl (fun u hu => sX12_untold _ _ _ _ _ _ _ hu) (fun e => ite_ne (by unfold mX12_untold at e; exact e)) (Nat.zero_le _) rfl (fun v8 => ?_)
        refine j_istore_n (q := 60) (i := 2) (l2 := [(0, vR x.2.2.2 x0), (1, .int x1)]) hx (dc kX12_laysTrials_0 36 rfl) rfl (hn 2 (by decide)) [0, 1] rfl ⟨⟨show (0 : Nat) ≠ 2 by decide, Or.inl (show (0 : Nat) + 1 ≠ 2 by decide)⟩, ⟨⟨show (1 : Nat) ≠ 2 by decide, Or.inr rfl⟩, trivial⟩⟩ rfl ?_
        exact j_sub [1, 2, 0] rfl (hb60 x0 x1 v8 h7)
      have hb46 : ∀ (x0 : Nat) (x1 : Int32) (t0 : Nat) (t1 : Int32) (h : Hp), J x 46 [(0, vR x.2.2.2 x0), (1, .int x1)] [.int t1, vR x.2.2.2 t0] h (mX12_laysTrials_b46 x0 x1 t0 t1 h) (TL (S := (Int32 × Hp)) x 13 (fun s => [(0, vR x.2.2.2 x0), (1, .int s.1)]) [] (fun s => s.2) (fun r => r = u)) := by
        intro x0 x1 t0 t1 h
        unfold mX12_laysTrials_b46
        refine j_iconst (q := 47) (v := (0 : Int32)) hx (dc kX12_laysTrials_0 28 rfl) (by decide) rfl ?_
        refine j_goto (q := 52) hx (dc kX12_laysTrials_0 29 rfl) (by decide) ?_
        exact hb52 x0 x1 t0 t1 (0 : Int32) h
      unfold mX12_laysTrials_l13f
      refine j_iload_n (q := 14) hx (dc kX12_laysTrials_0 9 rfl) rfl 1 rfl rfl ?_
      refine j_if_lt (q := 17) (tgt := 135) hx (dc kX12_laysTrials_0 10 rfl) (by decide) Iff.rfl rfl ?_ ?_
      · refine j_exit ?_
        exact r_vW hx hR (dc kX12_laysTrials_1 16 rfl)
      · refine j_aload_n (q := 18) hx (dc kX12_laysTrials_0 11 rfl) rfl 0 rfl rfl ?_
        refine w_gR (q := 21) hx (dc kX12_laysTrials_0 12 rfl) ff_X12_35 lk_X12_73 rfl (fun v4 => ?_)
        refine j_iload_n (q := 22) hx (dc kX12_laysTrials_0 13 rfl) rfl 1 rfl rfl ?_
        refine j_aload_n (q := 23) hx (dc kX12_laysTrials_0 14 rfl) rfl 0 rfl rfl ?_
        refine w_gR (q := 26) hx (dc kX12_laysTrials_0 15 rfl) ff_X12_34 lk_X12_70 rfl (fun v5 => ?_)
        refine j_iload_n (q := 27) hx (dc kX12_laysTrials_0 16 rfl) rfl 1 rfl rfl ?_
        refine j_ldI (q := 28) hx (dc kX12_laysTrials_0 17 rfl) rfl (fun v6 => ?_)
        refine j_if_eq (q := 31) (tgt := 46) hx (dc kX12_laysTrials_0 18 rfl) (by decide) Iff.rfl rfl ?_ ?_
        · exact hb46 x0 x1 v4 x1 h
        · refine j_aload_n (q := 32) hx (dc kX12_laysTrials_0 19 rfl) rfl 0 rfl rfl ?_
          refine w_gR (q := 35) hx (dc kX12_laysTrials_0 20 rfl) ff_X12_34 lk_X12_70 rfl (fun v26 => ?_)
          refine j_iload_n (q := 36) hx (dc kX12_laysTrials_0 21 rfl) rfl 1 rfl rfl ?_
          refine j_ldI (q := 37) hx (dc kX12_laysTrials_0 22 rfl) rfl (fun v27 => ?_)
          refine j_aload_n (q := 38) hx (dc kX12_laysTrials_0 23 rfl) rfl 0 rfl rfl ?_
          refine w_gR (q := 41) hx (dc kX12_laysTrials_0 24 rfl) ff_X12_33 lk_X12_67 rfl (fun v28 => ?_)
          refine j_iload_n (q := 42) hx (dc kX12_laysTrials_0 25 rfl) rfl 1 rfl rfl ?_
          refine j_ldI (q := 43) hx (dc kX12_laysTrials_0 26 rfl) rfl (fun v29 => ?_)
          refine j_icmp_neS (q := 46) (tgt := 50) hx (dc kX12_laysTrials_0 27 rfl) (by decide) rfl ?_ ?_
          · refine j_bipush (q := 52) (v := (9 : Int32)) hx (dc kX12_laysTrials_0 30 rfl) (by decide) rfl ?_
            exact hb52 x0 x1 v4 x1 (9 : Int32) h
          · exact hb46 x0 x1 v4 x1 h
    exact j_loop (S := (Int32 × Hp)) (lvf := fun s => [(0, vR x.2.2.2 x0), (1, .int s.1)]) (hpf := fun s => s.2) (f := (fun s : (Int32 × Hp) => mX12_laysTrials_l13f x0 s.1 s.2)) (fun s => hB s.1 s.2) (x1, h)
  unfold mX12_laysTrials
  refine J.ckd fun hck => ?_
  refine j_gs (a := 3) (q := 3) hx (dc kX12_laysTrials_0 0 rfl) gs_X12_432 gz_3 rfl ?_
  refine j_aload_n (q := 4) hx (dc kX12_laysTrials_0 1 rfl) rfl 0 rfl rfl ?_
  refine w_gR (q := 7) hx (dc kX12_laysTrials_0 2 rfl) ff_X12_0 lk_X12_7 rfl (fun v1 => ?_)
  refine j_iconst (q := 8) (v := (1 : Int32)) hx (dc kX12_laysTrials_0 3 rfl) (by decide) rfl ?_
  refine j_ldI (q := 9) hx (dc kX12_laysTrials_0 4 rfl) rfl (fun v2 => ?_)
  refine j_ldI (q := 10) hx (dc kX12_laysTrials_0 5 rfl) rfl (fun v3 => ?_)
  refine j_iconst (q := 11) (v := (1 : Int32)) hx (dc kX12_laysTrials_0 6 rfl) (by decide) rfl ?_
  refine j_isub (q := 12) hx (dc kX12_laysTrials_0 7 rfl) rfl ?_
  refine j_istore_n (q := 13) (i := 1) (l2 := [(0, vR x.2.2.2 x0)]) hx (dc kX12_laysTrials_0 8 rfl) rfl (hn 1 (by decide)) [0] rfl ⟨⟨show (0 : Nat) ≠ 1 by decide, Or.inr (vR_cat _ _)⟩, trivial⟩ rfl ?_
  exact j_sub [1, 0] rfl (hb13 x0 (v3 - (1 : Int32)) h)

