set_option maxHeartbeats 4000000 in
set_option maxRecDepth 100000 in
theorem sL_law (x : Cx) (hx : On x cL_law RL 55) (hnl : x.2.2.1.1.1 = 4) (x0 : Nat) (h : Hp) (u : Int32 × Hp) (hR : Lw x u) : J x 0 [(0, vR x.2.2.2 x0)] [] h (mL_law x0 h) (fun r => r = u) := by
  have hn : ∀ i, i < 4 → i < x.2.2.1.1.1 := fun i hi => by rw [hnl]; exact hi
  have hb18 : ∀ (x0 : Nat) (x1 : Nat) (x2 : Nat) (x3 : Int32) (h : Hp), J x 18 [(0, vR x.2.2.2 x0), (1, vR x.2.2.2 x1), (2, vR x.2.2.2 x2), (3, .int x3)] [] h (mL_law_l18 x0 x1 x2 x3 h) (fun r => r = u) := by
    intro x0 x1 x2 x3 h
    have hB : ∀ (x3 : Int32) (h : Hp), J x 18 [(0, vR x.2.2.2 x0), (1, vR x.2.2.2 x1), (2, vR x.2.2.2 x2), (3, .int x3)] [] h (mL_law_l18f x0 x1 x2 x3 h) (TL (S := (Int32 × Hp)) x 18 (fun s => [(0, vR x.2.2.2 x0), (1, vR x.2.2.2 x1), (2, vR x.2.2.2 x2), (3, .int s.1)]) [] (fun s => s.2) (fun r => r = u)) := by
      intro x3 h
      have hb1414 : ∀ (x0 : Nat) (x1 : Nat) (x2 : Nat) (x3 : Int32) (h : Hp), J x 1414 [(0, vR x.2.2.2 x0), (1, vR x.2.2.2 x1), (2, vR x.2.2.2 x2), (3, .int x3)] [] h (mL_law_b1414 x0 x1 x2 x3 h) (TL (S := (Int32 × Hp)) x 18 (fun s => [(0, vR x.2.2.2 x0), (1, vR x.2.2.2 x1), (2, vR x.2.2.2 x2), (3, .int s.1)]) [] (fun s => s.2) (fun r => r = u)) := by
        intro x0 x1 x2 x3 h
        unfold mL_law_b1414
        refine j_iinc (q := 1417) (l2 := [(0, vR x.2.2.2 x0), (1, vR x.2.2.2 x1), (2, vR x.2.2.2 x2)]) hx (dc kL_law_14 58 rfl) 3 rfl (v := (5 : Int32)) (by decide) (hn 3 (by decide)) [0, 1, 2] rfl ⟨⟨show (0 : Nat) ≠ 3 by decide, Or.inl (show (0 : Nat) + 1 ≠ 3 by decide)⟩, ⟨⟨show (1 : Nat) ≠ 3 by decide, Or.inl (show (1 : Nat) + 1 ≠ 3 by decide)⟩, ⟨⟨show (2 : Nat) ≠ 3 by decide, Or.inr (vR_cat _ _)⟩, trivial⟩⟩⟩ rfl ?_
        refine j_goto (q := 18) hx (dc kL_law_14 59 rfl) (by decide) ?_
        exact j_back [1, 2, 3, 0] ((x3 + (5 : Int32)), h) rfl rfl
      have hb556 : ∀ (x0 : Nat) (x1 : Nat) (x2 : Nat) (x3 : Int32) (t0 : Int32) (t1 : Nat) (t2 : Int32) (t3 : Int32) (h : Hp), J x 556 [(0, vR x.2.2.2 x0), (1, vR x.2.2.2 x1), (2, vR x.2.2.2 x2), (3, .int x3)] [.int t3, .int t2, vR x.2.2.2 t1, .int t0] h (mL_law_b556 x0 x1 x2 x3 t0 t1 t2 t3 h) (TL (S := (Int32 × Hp)) x 18 (fun s => [(0, vR x.2.2.2 x0), (1, vR x.2.2.2 x1), (2, vR x.2.2.2 x2), (3, .int s.1)]) [] (fun s => s.2) (fun r => r = u)) := by
        intro x0 x1 x2 x3 t0 t1 t2 t3 h
        unfold mL_law_b556
        refine w_cVIW (q := 559) (As := [.int t2, .int t3]) (st := [.int t0]) hx (dc kL_law_4 34 rfl) cf12 (by decide) rfl (cI _ my_X12_find lm_L_66 (by decide)) vs_X12_find rfl (fun u hu => sX12_find _ _ _ _ _ _ _ hu) (fun e => ite_ne (by unfold mX12_find at e; exact e)) (sum_le (sum_I sum_nil) (by decide)) rfl (fun v93 h94 => ?_)
        refine j_icmp_eq (q := 562) (tgt := 1414) hx (dc kL_law_4 35 rfl) (by decide) Iff.rfl rfl ?_ ?_
        · exact hb1414 x0 x1 x2 x3 h94
        · refine j_exit ?_
          refine j_iconst (q := 563) (v := (0 : Int32)) hx (dc kL_law_4 36 rfl) (by decide) rfl ?_
          exact r_law hx hR (dc kL_law_4 37 rfl)
      have hb534 : ∀ (x0 : Nat) (x1 : Nat) (x2 : Nat) (x3 : Int32) (t0 : Nat) (t1 : Int32) (t2 : Int32) (h : Hp), J x 534 [(0, vR x.2.2.2 x0), (1, vR x.2.2.2 x1), (2, vR x.2.2.2 x2), (3, .int x3)] [.int t2, .int t1, vR x.2.2.2 t0] h (mL_law_b534 x0 x1 x2 x3 t0 t1 t2 h) (TL (S := (Int32 × Hp)) x 18 (fun s => [(0, vR x.2.2.2 x0), (1, vR x.2.2.2 x1), (2, vR x.2.2.2 x2), (3, .int s.1)]) [] (fun s => s.2) (fun r => r = u)) := by
        intro x0 x1 x2 x3 t0 t1 t2 h
        unfold mL_law_b534
        refine w_cVIW (q := 537) (As := [.int t1, .int t2]) (st := []) hx (dc kL_law_4 18 rfl) cf11 (by decide) rfl (cI _ my_X11_find lm_L_62 (by decide)) vs_X11_find rfl (fun u hu => sX11_find _ _ _ _ _ _ _ hu) (fun e => ite_ne (by unfold mX11_find at e; exact e)) (Nat.zero_le _) rfl (fun v89 h90 => ?_)
        refine j_aload_n (q := 538) hx (dc kL_law_4 19 rfl) rfl 2 rfl rfl ?_
        refine j_aload_n (q := 539) hx (dc kL_law_4 20 rfl) rfl 0 rfl rfl ?_
        refine j_iload_n (q := 540) hx (dc kL_law_4 21 rfl) rfl 3 rfl rfl ?_
        refine j_iconst (q := 541) (v := (1 : Int32)) hx (dc kL_law_4 22 rfl) (by decide) rfl ?_
        refine j_iadd (q := 542) hx (dc kL_law_4 23 rfl) rfl ?_
        refine j_ldI (q := 543) hx (dc kL_law_4 24 rfl) rfl (fun v91 => ?_)
        refine j_aload_n (q := 544) hx (dc kL_law_4 25 rfl) rfl 0 rfl rfl ?_
        refine j_iload_n (q := 545) hx (dc kL_law_4 26 rfl) rfl 3 rfl rfl ?_
        refine j_iconst (q := 546) (v := (2 : Int32)) hx (dc kL_law_4 27 rfl) (by decide) rfl ?_
        refine j_iadd (q := 547) hx (dc kL_law_4 28 rfl) rfl ?_
        refine j_ldI (q := 548) hx (dc kL_law_4 29 rfl) rfl (fun v92 => ?_)
        refine j_if_eq (q := 551) (tgt := 555) hx (dc kL_law_4 30 rfl) (by decide) Iff.rfl rfl ?_ ?_
        · refine j_iconst (q := 556) (v := (0 : Int32)) hx (dc kL_law_4 33 rfl) (by decide) rfl ?_
          exact hb556 x0 x1 x2 x3 v89 x2 v91 (0 : Int32) h90
        · refine j_iconst (q := 552) (v := (1 : Int32)) hx (dc kL_law_4 31 rfl) (by decide) rfl ?_
          refine j_goto (q := 556) hx (dc kL_law_4 32 rfl) (by decide) ?_
          exact hb556 x0 x1 x2 x3 v89 x2 v91 (1 : Int32) h90
      have hb1156 : ∀ (x0 : Nat) (x1 : Nat) (x2 : Nat) (x3 : Int32) (t0 : Int32) (t1 : Nat) (t2 : Int32) (t3 : Int32) (h : Hp), J x 1156 [(0, vR x.2.2.2 x0), (1, vR x.2.2.2 x1), (2, vR x.2.2.2 x2), (3, .int x3)] [.int t3, .int t2, vR x.2.2.2 t1, .int t0] h (mL_law_b1156 x0 x1 x2 x3 t0 t1 t2 t3 h) (TL (S := (Int32 × Hp)) x 18 (fun s => [(0, vR x.2.2.2 x0), (1, vR x.2.2.2 x1), (2, vR x.2.2.2 x2), (3, .int s.1)]) [] (fun s => s.2) (fun r => r = u)) := by
        intro x0 x1 x2 x3 t0 t1 t2 t3 h
        unfold mL_law_b1156
        refine w_cVIW (q := 1159) (As := [.int t2, .int t3]) (st := [.int t0]) hx (dc kL_law_11 52 rfl) cf12 (by decide) rfl (cI _ my_X12_proofs lm_L_151 (by decide)) vs_X12_proofs rfl (fun u hu => sX12_proofs _ _ _ _ _ _ _ hu) (fun e => ite_ne (by unfold mX12_proofs at e; exact e)) (sum_le (sum_I sum_nil) (by decide)) rfl (fun v239 h240 => ?_)
        refine j_icmp_eq (q := 1162) (tgt := 1414) hx (dc kL_law_11 53 rfl) (by decide) Iff.rfl rfl ?_ ?_
        · exact hb1414 x0 x1 x2 x3 h240
        · refine j_exit ?_
          refine j_iconst (q := 1163) (v := (0 : Int32)) hx (dc kL_law_11 54 rfl) (by decide) rfl ?_
          exact r_law hx hR (dc kL_law_11 55 rfl)
      have hb1134 : ∀ (x0 : Nat) (x1 : Nat) (x2 : Nat) (x3 : Int32) (t0 : Nat) (t1 : Int32) (t2 : Int32) (h : Hp), J x 1134 [(0, vR x.2.2.2 x0), (1, vR x.2.2.2 x1), (2, vR x.2.2.2 x2), (3, .int x3)] [.int t2, .int t1, vR x.2.2.2 t0] h (mL_law_b1134 x0 x1 x2 x3 t0 t1 t2 h) (TL (S := (Int32 × Hp)) x 18 (fun s => [(0, vR x.2.2.2 x0), (1, vR x.2.2.2 x1), (2, vR x.2.2.2 x2), (3, .int s.1)]) [] (fun s => s.2) (fun r => r = u)) := by
        intro x0 x1 x2 x3 t0 t1 t2 h
        unfold mL_law_b1134
        refine w_cVIW (q := 1137) (As := [.int t1, .int t2]) (st := []) hx (dc kL_law_11 36 rfl) cf11 (by decide) rfl (cI _ my_X11_proofs lm_L_148 (by decide)) vs_X11_proofs rfl (fun u hu => sX11_proofs _ _ _ _ _ _ _ hu) (fun e => ite_ne (by unfold mX11_proofs at e; exact e)) (Nat.zero_le _) rfl (fun v235 h236 => ?_)
        refine j_aload_n (q := 1138) hx (dc kL_law_11 37 rfl) rfl 2 rfl rfl ?_
        refine j_aload_n (q := 1139) hx (dc kL_law_11 38 rfl) rfl 0 rfl rfl ?_
        refine j_iload_n (q := 1140) hx (dc kL_law_11 39 rfl) rfl 3 rfl rfl ?_
        refine j_iconst (q := 1141) (v := (1 : Int32)) hx (dc kL_law_11 40 rfl) (by decide) rfl ?_
        refine j_iadd (q := 1142) hx (dc kL_law_11 41 rfl) rfl ?_
        refine j_ldI (q := 1143) hx (dc kL_law_11 42 rfl) rfl (fun v237 => ?_)
        refine j_aload_n (q := 1144) hx (dc kL_law_11 43 rfl) rfl 0 rfl rfl ?_
        refine j_iload_n (q := 1145) hx (dc kL_law_11 44 rfl) rfl 3 rfl rfl ?_
        refine j_iconst (q := 1146) (v := (2 : Int32)) hx (dc kL_law_11 45 rfl) (by decide) rfl ?_
        refine j_iadd (q := 1147) hx (dc kL_law_11 46 rfl) rfl ?_
        refine j_ldI (q := 1148) hx (dc kL_law_11 47 rfl) rfl (fun v238 => ?_)
        refine j_if_eq (q := 1151) (tgt := 1155) hx (dc kL_law_11 48 rfl) (by decide) Iff.rfl rfl ?_ ?_
        · refine j_iconst (q := 1156) (v := (0 : Int32)) hx (dc kL_law_11 51 rfl) (by decide) rfl ?_
          exact hb1156 x0 x1 x2 x3 v235 x2 v237 (0 : Int32) h236
        · refine j_iconst (q := 1152) (v := (1 : Int32)) hx (dc kL_law_11 49 rfl) (by decide) rfl ?_
          refine j_goto (q := 1156) hx (dc kL_law_11 50 rfl) (by decide) ?_
          exact hb1156 x0 x1 x2 x3 v235 x2 v237 (1 : Int32) h236
      have hb1215 : ∀ (x0 : Nat) (x1 : Nat) (x2 : Nat) (x3 : Int32) (t0 : Int32) (t1 : Nat) (t2 : Int32) (t3 : Int32) (h : Hp), J x 1215 [(0, vR x.2.2.2 x0), (1, vR x.2.2.2 x1), (2, vR x.2.2.2 x2), (3, .int x3)] [.int t3, .int t2, vR x.2.2.2 t1, .int t0] h (mL_law_b1215 x0 x1 x2 x3 t0 t1 t2 t3 h) (TL (S := (Int32 × Hp)) x 18 (fun s => [(0, vR x.2.2.2 x0), (1, vR x.2.2.2 x1), (2, vR x.2.2.2 x2), (3, .int s.1)]) [] (fun s => s.2) (fun r => r = u)) := by
        intro x0 x1 x2 x3 t0 t1 t2 t3 h
        unfold mL_law_b1215
        refine j_aload_n (q := 1216) hx (dc kL_law_12 33 rfl) rfl 0 rfl rfl ?_
        refine j_iload_n (q := 1217) hx (dc kL_law_12 34 rfl) rfl 3 rfl rfl ?_
        refine j_iconst (q := 1218) (v := (3 : Int32)) hx (dc kL_law_12 35 rfl) (by decide) rfl ?_
        refine j_iadd (q := 1219) hx (dc kL_law_12 36 rfl) rfl ?_
        refine j_ldI (q := 1220) hx (dc kL_law_12 37 rfl) rfl (fun v249 => ?_)
        refine j_aload_n (q := 1221) hx (dc kL_law_12 38 rfl) rfl 0 rfl rfl ?_
        refine j_iload_n (q := 1222) hx (dc kL_law_12 39 rfl) rfl 3 rfl rfl ?_
        refine j_iconst (q := 1223) (v := (4 : Int32)) hx (dc kL_law_12 40 rfl) (by decide) rfl ?_
        refine j_iadd (q := 1224) hx (dc kL_law_12 41 rfl) rfl ?_
        refine j_ldI (q := 1225) hx (dc kL_law_12 42 rfl) rfl (fun v250 => ?_)
        refine w_cVIW (q := 1228) (As := [.int t2, .int t3, .int v249, .int v250]) (st := [.int t0]) hx (dc kL_law_12 43 rfl) cf12 (by decide) rfl (cI _ my_X12_proof lm_L_156 (by decide)) vs_X12_proof rfl (fun u hu => sX12_proof _ _ _ _ _ _ _ _ _ hu) (fun e => ite_ne (by unfold mX12_proof at e; exact e)) (sum_le (sum_I sum_nil) (by decide)) rfl (fun v251 h252 => ?_)
        refine j_icmp_eq (q := 1231) (tgt := 1414) hx (dc kL_law_12 44 rfl) (by decide) Iff.rfl rfl ?_ ?_
        · exact hb1414 x0 x1 x2 x3 h252
        · refine j_exit ?_
          refine j_iconst (q := 1232) (v := (0 : Int32)) hx (dc kL_law_12 45 rfl) (by decide) rfl ?_
          exact r_law hx hR (dc kL_law_12 46 rfl)
      have hb1183 : ∀ (x0 : Nat) (x1 : Nat) (x2 : Nat) (x3 : Int32) (t0 : Nat) (t1 : Int32) (t2 : Int32) (h : Hp), J x 1183 [(0, vR x.2.2.2 x0), (1, vR x.2.2.2 x1), (2, vR x.2.2.2 x2), (3, .int x3)] [.int t2, .int t1, vR x.2.2.2 t0] h (mL_law_b1183 x0 x1 x2 x3 t0 t1 t2 h) (TL (S := (Int32 × Hp)) x 18 (fun s => [(0, vR x.2.2.2 x0), (1, vR x.2.2.2 x1), (2, vR x.2.2.2 x2), (3, .int s.1)]) [] (fun s => s.2) (fun r => r = u)) := by
        intro x0 x1 x2 x3 t0 t1 t2 h
        unfold mL_law_b1183
        refine j_aload_n (q := 1184) hx (dc kL_law_12 7 rfl) rfl 0 rfl rfl ?_
        refine j_iload_n (q := 1185) hx (dc kL_law_12 8 rfl) rfl 3 rfl rfl ?_
        refine j_iconst (q := 1186) (v := (3 : Int32)) hx (dc kL_law_12 9 rfl) (by decide) rfl ?_
        refine j_iadd (q := 1187) hx (dc kL_law_12 10 rfl) rfl ?_
        refine j_ldI (q := 1188) hx (dc kL_law_12 11 rfl) rfl (fun v243 => ?_)
        refine j_aload_n (q := 1189) hx (dc kL_law_12 12 rfl) rfl 0 rfl rfl ?_
        refine j_iload_n (q := 1190) hx (dc kL_law_12 13 rfl) rfl 3 rfl rfl ?_
        refine j_iconst (q := 1191) (v := (4 : Int32)) hx (dc kL_law_12 14 rfl) (by decide) rfl ?_
        refine j_iadd (q := 1192) hx (dc kL_law_12 15 rfl) rfl ?_
        refine j_ldI (q := 1193) hx (dc kL_law_12 16 rfl) rfl (fun v244 => ?_)
        refine w_cVIW (q := 1196) (As := [.int t1, .int t2, .int v243, .int v244]) (st := []) hx (dc kL_law_12 17 rfl) cf11 (by decide) rfl (cI _ my_X11_proof lm_L_152 (by decide)) vs_X11_proof rfl (fun u hu => sX11_proof _ _ _ _ _ _ _ _ _ hu) (fun e => ite_ne (by unfold mX11_proof at e; exact e)) (Nat.zero_le _) rfl (fun v245 h246 => ?_)
        refine j_aload_n (q := 1197) hx (dc kL_law_12 18 rfl) rfl 2 rfl rfl ?_
        refine j_aload_n (q := 1198) hx (dc kL_law_12 19 rfl) rfl 0 rfl rfl ?_
        refine j_iload_n (q := 1199) hx (dc kL_law_12 20 rfl) rfl 3 rfl rfl ?_
        refine j_iconst (q := 1200) (v := (1 : Int32)) hx (dc kL_law_12 21 rfl) (by decide) rfl ?_
        refine j_iadd (q := 1201) hx (dc kL_law_12 22 rfl) rfl ?_
        refine j_ldI (q := 1202) hx (dc kL_law_12 23 rfl) rfl (fun v247 => ?_)
        refine j_aload_n (q := 1203) hx (dc kL_law_12 24 rfl) rfl 0 rfl rfl ?_
        refine j_iload_n (q := 1204) hx (dc kL_law_12 25 rfl) rfl 3 rfl rfl ?_
        refine j_iconst (q := 1205) (v := (2 : Int32)) hx (dc kL_law_12 26 rfl) (by decide) rfl ?_
        refine j_iadd (q := 1206) hx (dc kL_law_12 27 rfl) rfl ?_
        refine j_ldI (q := 1207) hx (dc kL_law_12 28 rfl) rfl (fun v248 => ?_)
        refine j_if_eq (q := 1210) (tgt := 1214) hx (dc kL_law_12 29 rfl) (by decide) Iff.rfl rfl ?_ ?_
        · refine j_iconst (q := 1215) (v := (0 : Int32)) hx (dc kL_law_12 32 rfl) (by decide) rfl ?_
          exact hb1215 x0 x1 x2 x3 v245 x2 v247 (0 : Int32) h246
        · refine j_iconst (q := 1211) (v := (1 : Int32)) hx (dc kL_law_12 30 rfl) (by decide) rfl ?_
          refine j_goto (q := 1215) hx (dc kL_law_12 31 rfl) (by decide) ?_
          exact hb1215 x0 x1 x2 x3 v245 x2 v247 (1 : Int32) h246
      unfold mL_law_l18f
      refine j_iload_n (q := 19) hx (dc kL_law_0 10 rfl) rfl 3 rfl rfl ?_
      refine j_aload_n (q := 20) hx (dc kL_law_0 11 rfl) rfl 0 rfl rfl ?_
      refine j_alen (q := 21) hx (dc kL_law_0 12 rfl) rfl (fun v9 => ?_)
      refine j_iconst (q := 22) (v := (5 : Int32)) hx (dc kL_law_0 13 rfl) (by decide) rfl ?_
      refine j_isub (q := 23) hx (dc kL_law_0 14 rfl) rfl ?_
      refine j_icmp_gt (q := 26) (tgt := 1420) hx (dc kL_law_0 15 rfl) (by decide) Iff.rfl rfl ?_ ?_
      · refine j_exit ?_
        refine j_iconst (q := 1421) (v := (1 : Int32)) hx (dc kL_law_14 60 rfl) (by decide) rfl ?_
        exact r_law hx hR (dc kL_law_14 61 rfl)
      · refine j_aload_n (q := 27) hx (dc kL_law_0 16 rfl) rfl 0 rfl rfl ?_
        refine j_iload_n (q := 28) hx (dc kL_law_0 17 rfl) rfl 3 rfl rfl ?_
        refine j_ldI (q := 29) hx (dc kL_law_0 18 rfl) rfl (fun v10 => ?_)
        refine j_bipush (q := 31) (v := (63 : Int32)) hx (dc kL_law_0 19 rfl) (by decide) rfl ?_
        refine j_iand (q := 32) hx (dc kL_law_0 20 rfl) rfl ?_
        refine j_tsw (td := 1414) hx (dc kL_law_0 21 rfl) (by decide) (by decide) ?_ ?_
        · exact hb1414 x0 x1 x2 x3 h
        · refine ⟨⟨212, by decide, ?_⟩, ⟨235, by decide, ?_⟩, ⟨258, by decide, ?_⟩, ⟨271, by decide, ?_⟩, ⟨294, by decide, ?_⟩, ⟨327, by decide, ?_⟩, ⟨360, by decide, ?_⟩, ⟨403, by decide, ?_⟩, ⟨446, by decide, ?_⟩, ⟨479, by decide, ?_⟩, ⟨502, by decide, ?_⟩, ⟨515, by decide, ?_⟩, ⟨564, by decide, ?_⟩, ⟨607, by decide, ?_⟩, ⟨650, by decide, ?_⟩, ⟨673, by decide, ?_⟩, ⟨696, by decide, ?_⟩, ⟨709, by decide, ?_⟩, ⟨732, by decide, ?_⟩, ⟨755, by decide, ?_⟩, ⟨778, by decide, ?_⟩, ⟨811, by decide, ?_⟩, ⟨844, by decide, ?_⟩, ⟨877, by decide, ?_⟩, ⟨910, by decide, ?_⟩, ⟨933, by decide, ?_⟩, ⟨956, by decide, ?_⟩, ⟨989, by decide, ?_⟩, ⟨1022, by decide, ?_⟩, ⟨1045, by decide, ?_⟩, ⟨1069, by decide, ?_⟩, ⟨1082, by decide, ?_⟩, ⟨1115, by decide, ?_⟩, ⟨1164, by decide, ?_⟩, ⟨1233, by decide, ?_⟩, ⟨1266, by decide, ?_⟩, ⟨1309, by decide, ?_⟩, ⟨1332, by decide, ?_⟩, ⟨1355, by decide, ?_⟩, ⟨1368, by decide, ?_⟩, ⟨1391, by decide, ?_⟩, trivial⟩
          · refine j_aload_n (q := 213) hx (dc kL_law_0 22 rfl) rfl 1 rfl rfl ?_
            refine j_aload_n (q := 214) hx (dc kL_law_0 23 rfl) rfl 0 rfl rfl ?_
            refine j_iload_n (q := 215) hx (dc kL_law_0 24 rfl) rfl 3 rfl rfl ?_
            refine j_iconst (q := 216) (v := (1 : Int32)) hx (dc kL_law_0 25 rfl) (by decide) rfl ?_
            refine j_iadd (q := 217) hx (dc kL_law_0 26 rfl) rfl ?_
            refine j_ldI (q := 218) hx (dc kL_law_0 27 rfl) rfl (fun v11 => ?_)
            refine w_cVIW (q := 221) (As := [.int v11]) (st := []) hx (dc kL_law_0 28 rfl) cf11 (by decide) rfl (cI _ my_X11_sign lm_L_13 (by decide)) vs_X11_sign rfl (fun u hu => sX11_sign _ _ _ _ _ _ hu) (fun e => ite_ne (by unfold mX11_sign at e; exact e)) (Nat.zero_le _) rfl (fun v12 h13 => ?_)
            refine j_aload_n (q := 222) hx (dc kL_law_0 29 rfl) rfl 2 rfl rfl ?_
            refine j_aload_n (q := 223) hx (dc kL_law_0 30 rfl) rfl 0 rfl rfl ?_
            refine j_iload_n (q := 224) hx (dc kL_law_0 31 rfl) rfl 3 rfl rfl ?_
            refine j_iconst (q := 225) (v := (1 : Int32)) hx (dc kL_law_0 32 rfl) (by decide) rfl ?_
            refine j_iadd (q := 226) hx (dc kL_law_0 33 rfl) rfl ?_
            refine j_ldI (q := 227) hx (dc kL_law_0 34 rfl) rfl (fun v14 => ?_)
            refine w_cVIW (q := 230) (As := [.int v14]) (st := [.int v12]) hx (dc kL_law_0 35 rfl) cf12 (by decide) rfl (cI _ my_X12_sign lm_L_17 (by decide)) vs_X12_sign rfl (fun u hu => sX12_sign _ _ _ _ _ _ hu) (fun e => ite_ne (by unfold mX12_sign at e; exact e)) (sum_le (sum_I sum_nil) (by decide)) rfl (fun v15 h16 => ?_)
            refine j_icmp_eq (q := 233) (tgt := 1414) hx (dc kL_law_0 36 rfl) (by decide) Iff.rfl rfl ?_ ?_
            · exact hb1414 x0 x1 x2 x3 h16
            · refine j_exit ?_
              refine j_iconst (q := 234) (v := (0 : Int32)) hx (dc kL_law_0 37 rfl) (by decide) rfl ?_
              exact r_law hx hR (dc kL_law_0 38 rfl)
          · refine j_aload_n (q := 236) hx (dc kL_law_0 39 rfl) rfl 1 rfl rfl ?_
            refine j_aload_n (q := 237) hx (dc kL_law_0 40 rfl) rfl 0 rfl rfl ?_
            refine j_iload_n (q := 238) hx (dc kL_law_0 41 rfl) rfl 3 rfl rfl ?_
            refine j_iconst (q := 239) (v := (1 : Int32)) hx (dc kL_law_0 42 rfl) (by decide) rfl ?_
            refine j_iadd (q := 240) hx (dc kL_law_0 43 rfl) rfl ?_
            refine j_ldI (q := 241) hx (dc kL_law_0 44 rfl) rfl (fun v17 => ?_)
            refine w_cVIW (q := 244) (As := [.int v17]) (st := []) hx (dc kL_law_0 45 rfl) cf11 (by decide) rfl (cI _ my_X11_end lm_L_18 (by decide)) vs_X11_end rfl (fun u hu => sX11_end _ _ _ _ _ _ hu) (fun e => ite_ne (by unfold mX11_end at e; exact e)) (Nat.zero_le _) rfl (fun v18 h19 => ?_)
            refine j_aload_n (q := 245) hx (dc kL_law_0 46 rfl) rfl 2 rfl rfl ?_
            refine j_aload_n (q := 246) hx (dc kL_law_0 47 rfl) rfl 0 rfl rfl ?_
            refine j_iload_n (q := 247) hx (dc kL_law_0 48 rfl) rfl 3 rfl rfl ?_
            refine j_iconst (q := 248) (v := (1 : Int32)) hx (dc kL_law_0 49 rfl) (by decide) rfl ?_
            refine j_iadd (q := 249) hx (dc kL_law_0 50 rfl) rfl ?_
            refine j_ldI (q := 250) hx (dc kL_law_0 51 rfl) rfl (fun v20 => ?_)
            refine w_cVIW (q := 253) (As := [.int v20]) (st := [.int v18]) hx (dc kL_law_0 52 rfl) cf12 (by decide) rfl (cI _ my_X12_end lm_L_22 (by decide)) vs_X12_end rfl (fun u hu => sX12_end _ _ _ _ _ _ hu) (fun e => ite_ne (by unfold mX12_end at e; exact e)) (sum_le (sum_I sum_nil) (by decide)) rfl (fun v21 h22 => ?_)
            refine j_icmp_eq (q := 256) (tgt := 1414) hx (dc kL_law_0 53 rfl) (by decide) Iff.rfl rfl ?_ ?_
            · exact hb1414 x0 x1 x2 x3 h22
            · refine j_exit ?_
              refine j_iconst (q := 257) (v := (0 : Int32)) hx (dc kL_law_0 54 rfl) (by decide) rfl ?_
              exact r_law hx hR (dc kL_law_0 55 rfl)
          · refine j_aload_n (q := 259) hx (dc kL_law_0 56 rfl) rfl 1 rfl rfl ?_
            refine w_cVIW (q := 262) (As := []) (st := []) hx (dc kL_law_0 57 rfl) cf11 (by decide) rfl (cI _ my_X11_suit lm_L_23 (by decide)) vs_X11_suit rfl (fun u hu => sX11_suit _ _ _ _ _ hu) (fun e => ite_ne (by unfold mX11_suit at e; exact e)) (Nat.zero_le _) rfl (fun v23 h24 => ?_)
            refine j_aload_n (q := 263) hx (dc kL_law_0 58 rfl) rfl 2 rfl rfl ?_
            refine w_cVIW (q := 266) (As := []) (st := [.int v23]) hx (dc kL_law_0 59 rfl) cf12 (by decide) rfl (cI _ my_X12_suit lm_L_27 (by decide)) vs_X12_suit rfl (fun u hu => sX12_suit _ _ _ _ _ hu) (fun e => ite_ne (by unfold mX12_suit at e; exact e)) (sum_le (sum_I sum_nil) (by decide)) rfl (fun v25 h26 => ?_)
            refine j_icmp_eq (q := 269) (tgt := 1414) hx (dc kL_law_0 60 rfl) (by decide) Iff.rfl rfl ?_ ?_
            · exact hb1414 x0 x1 x2 x3 h26
            · refine j_exit ?_
              refine j_iconst (q := 270) (v := (0 : Int32)) hx (dc kL_law_0 61 rfl) (by decide) rfl ?_
              exact r_law hx hR (dc kL_law_0 62 rfl)
          · refine j_aload_n (q := 272) hx (dc kL_law_0 63 rfl) rfl 1 rfl rfl ?_
            refine j_aload_n (q := 273) hx (dc kL_law_1 0 rfl) rfl 0 rfl rfl ?_
            refine j_iload_n (q := 274) hx (dc kL_law_1 1 rfl) rfl 3 rfl rfl ?_
            refine j_iconst (q := 275) (v := (1 : Int32)) hx (dc kL_law_1 2 rfl) (by decide) rfl ?_
            refine j_iadd (q := 276) hx (dc kL_law_1 3 rfl) rfl ?_
            refine j_ldI (q := 277) hx (dc kL_law_1 4 rfl) rfl (fun v27 => ?_)
            refine w_cVIR (q := 280) (As := [.int v27]) (st := []) hx (dc kL_law_1 5 rfl) cf11 (by decide) rfl (cI _ my_X11_fault lm_L_28 (by decide)) vs_X11_fault rfl (fun u hu => sX11_fault _ _ _ _ _ _ hu) (fun e => ite_ne (by unfold mX11_fault at e; exact e)) (Nat.zero_le _) rfl (fun v28 => ?_)
            refine j_aload_n (q := 281) hx (dc kL_law_1 6 rfl) rfl 2 rfl rfl ?_
            refine j_aload_n (q := 282) hx (dc kL_law_1 7 rfl) rfl 0 rfl rfl ?_
            refine j_iload_n (q := 283) hx (dc kL_law_1 8 rfl) rfl 3 rfl rfl ?_
            refine j_iconst (q := 284) (v := (1 : Int32)) hx (dc kL_law_1 9 rfl) (by decide) rfl ?_
            refine j_iadd (q := 285) hx (dc kL_law_1 10 rfl) rfl ?_
            refine j_ldI (q := 286) hx (dc kL_law_1 11 rfl) rfl (fun v30 => ?_)
            refine w_cVIR (q := 289) (As := [.int v30]) (st := [.int v28]) hx (dc kL_law_1 12 rfl) cf12 (by decide) rfl (cI _ my_X12_fault lm_L_31 (by decide)) vs_X12_fault rfl (fun u hu => sX12_fault _ _ _ _ _ _ hu) (fun e => ite_ne (by unfold mX12_fault at e; exact e)) (sum_le (sum_I sum_nil) (by decide)) rfl (fun v31 => ?_)
            refine j_icmp_eq (q := 292) (tgt := 1414) hx (dc kL_law_1 13 rfl) (by decide) Iff.rfl rfl ?_ ?_
            · exact hb1414 x0 x1 x2 x3 h
            · refine j_exit ?_
              refine j_iconst (q := 293) (v := (0 : Int32)) hx (dc kL_law_1 14 rfl) (by decide) rfl ?_
              exact r_law hx hR (dc kL_law_1 15 rfl)
          · refine j_aload_n (q := 295) hx (dc kL_law_1 16 rfl) rfl 1 rfl rfl ?_
            refine j_aload_n (q := 296) hx (dc kL_law_1 17 rfl) rfl 0 rfl rfl ?_
            refine j_iload_n (q := 297) hx (dc kL_law_1 18 rfl) rfl 3 rfl rfl ?_
            refine j_iconst (q := 298) (v := (1 : Int32)) hx (dc kL_law_1 19 rfl) (by decide) rfl ?_
            refine j_iadd (q := 299) hx (dc kL_law_1 20 rfl) rfl ?_
            refine j_ldI (q := 300) hx (dc kL_law_1 21 rfl) rfl (fun v33 => ?_)
            refine j_aload_n (q := 301) hx (dc kL_law_1 22 rfl) rfl 0 rfl rfl ?_
            refine j_iload_n (q := 302) hx (dc kL_law_1 23 rfl) rfl 3 rfl rfl ?_
            refine j_iconst (q := 303) (v := (2 : Int32)) hx (dc kL_law_1 24 rfl) (by decide) rfl ?_
            refine j_iadd (q := 304) hx (dc kL_law_1 25 rfl) rfl ?_
            refine j_ldI (q := 305) hx (dc kL_law_1 26 rfl) rfl (fun v34 => ?_)
            refine w_cVIR (q := 308) (As := [.int v33, .int v34]) (st := []) hx (dc kL_law_1 27 rfl) cf11 (by decide) rfl (cI _ my_X11_fact lm_L_32 (by decide)) vs_X11_fact rfl (fun u hu => sX11_fact _ _ _ _ _ _ _ hu) (fun e => ite_ne (by unfold mX11_fact at e; exact e)) (Nat.zero_le _) rfl (fun v35 => ?_)
            refine j_aload_n (q := 309) hx (dc kL_law_1 28 rfl) rfl 2 rfl rfl ?_
            refine j_aload_n (q := 310) hx (dc kL_law_1 29 rfl) rfl 0 rfl rfl ?_
            refine j_iload_n (q := 311) hx (dc kL_law_1 30 rfl) rfl 3 rfl rfl ?_
            refine j_iconst (q := 312) (v := (1 : Int32)) hx (dc kL_law_1 31 rfl) (by decide) rfl ?_
            refine j_iadd (q := 313) hx (dc kL_law_1 32 rfl) rfl ?_
            refine j_ldI (q := 314) hx (dc kL_law_1 33 rfl) rfl (fun v37 => ?_)
            refine j_aload_n (q := 315) hx (dc kL_law_1 34 rfl) rfl 0 rfl rfl ?_
            refine j_iload_n (q := 316) hx (dc kL_law_1 35 rfl) rfl 3 rfl rfl ?_
            refine j_iconst (q := 317) (v := (2 : Int32)) hx (dc kL_law_1 36 rfl) (by decide) rfl ?_
            refine j_iadd (q := 318) hx (dc kL_law_1 37 rfl) rfl ?_
            refine j_ldI (q := 319) hx (dc kL_law_1 38 rfl) rfl (fun v38 => ?_)
            refine w_cVIR (q := 322) (As := [.int v37, .int v38]) (st := [.int v35]) hx (dc kL_law_1 39 rfl) cf12 (by decide) rfl (cI _ my_X12_fact lm_L_36 (by decide)) vs_X12_fact rfl (fun u hu => sX12_fact _ _ _ _ _ _ _ hu) (fun e => ite_ne (by unfold mX12_fact at e; exact e)) (sum_le (sum_I sum_nil) (by decide)) rfl (fun v39 => ?_)
            refine j_icmp_eq (q := 325) (tgt := 1414) hx (dc kL_law_1 40 rfl) (by decide) Iff.rfl rfl ?_ ?_
            · exact hb1414 x0 x1 x2 x3 h
            · refine j_exit ?_
              refine j_iconst (q := 326) (v := (0 : Int32)) hx (dc kL_law_1 41 rfl) (by decide) rfl ?_
              exact r_law hx hR (dc kL_law_1 42 rfl)
          · refine j_aload_n (q := 328) hx (dc kL_law_1 43 rfl) rfl 1 rfl rfl ?_
            refine j_aload_n (q := 329) hx (dc kL_law_1 44 rfl) rfl 0 rfl rfl ?_
            refine j_iload_n (q := 330) hx (dc kL_law_1 45 rfl) rfl 3 rfl rfl ?_
            refine j_iconst (q := 331) (v := (1 : Int32)) hx (dc kL_law_1 46 rfl) (by decide) rfl ?_
            refine j_iadd (q := 332) hx (dc kL_law_1 47 rfl) rfl ?_
            refine j_ldI (q := 333) hx (dc kL_law_1 48 rfl) rfl (fun v41 => ?_)
            refine j_aload_n (q := 334) hx (dc kL_law_1 49 rfl) rfl 0 rfl rfl ?_
            refine j_iload_n (q := 335) hx (dc kL_law_1 50 rfl) rfl 3 rfl rfl ?_
            refine j_iconst (q := 336) (v := (2 : Int32)) hx (dc kL_law_1 51 rfl) (by decide) rfl ?_
            refine j_iadd (q := 337) hx (dc kL_law_1 52 rfl) rfl ?_
            refine j_ldI (q := 338) hx (dc kL_law_1 53 rfl) rfl (fun v42 => ?_)
            refine w_cVIW (q := 341) (As := [.int v41, .int v42]) (st := []) hx (dc kL_law_1 54 rfl) cf11 (by decide) rfl (cI _ my_X11_of lm_L_37 (by decide)) vs_X11_of rfl (fun u hu => sX11_of _ _ _ _ _ _ _ hu) (fun e => ite_ne (by unfold mX11_of at e; exact e)) (Nat.zero_le _) rfl (fun v43 h44 => ?_)
            refine j_aload_n (q := 342) hx (dc kL_law_1 55 rfl) rfl 2 rfl rfl ?_
            refine j_aload_n (q := 343) hx (dc kL_law_1 56 rfl) rfl 0 rfl rfl ?_
            refine j_iload_n (q := 344) hx (dc kL_law_1 57 rfl) rfl 3 rfl rfl ?_
            refine j_iconst (q := 345) (v := (1 : Int32)) hx (dc kL_law_1 58 rfl) (by decide) rfl ?_
            refine j_iadd (q := 346) hx (dc kL_law_1 59 rfl) rfl ?_
            refine j_ldI (q := 347) hx (dc kL_law_1 60 rfl) rfl (fun v45 => ?_)
            refine j_aload_n (q := 348) hx (dc kL_law_1 61 rfl) rfl 0 rfl rfl ?_
            refine j_iload_n (q := 349) hx (dc kL_law_1 62 rfl) rfl 3 rfl rfl ?_
            refine j_iconst (q := 350) (v := (2 : Int32)) hx (dc kL_law_1 63 rfl) (by decide) rfl ?_
            refine j_iadd (q := 351) hx (dc kL_law_2 0 rfl) rfl ?_
            refine j_ldI (q := 352) hx (dc kL_law_2 1 rfl) rfl (fun v46 => ?_)
            refine w_cVIW (q := 355) (As := [.int v45, .int v46]) (st := [.int v43]) hx (dc kL_law_2 2 rfl) cf12 (by decide) rfl (cI _ my_X12_of lm_L_40 (by decide)) vs_X12_of rfl (fun u hu => sX12_of _ _ _ _ _ _ _ hu) (fun e => ite_ne (by unfold mX12_of at e; exact e)) (sum_le (sum_I sum_nil) (by decide)) rfl (fun v47 h48 => ?_)
            refine j_icmp_eq (q := 358) (tgt := 1414) hx (dc kL_law_2 3 rfl) (by decide) Iff.rfl rfl ?_ ?_
            · exact hb1414 x0 x1 x2 x3 h48
            · refine j_exit ?_
              refine j_iconst (q := 359) (v := (0 : Int32)) hx (dc kL_law_2 4 rfl) (by decide) rfl ?_
              exact r_law hx hR (dc kL_law_2 5 rfl)
          · refine j_aload_n (q := 361) hx (dc kL_law_2 6 rfl) rfl 1 rfl rfl ?_
            refine j_aload_n (q := 362) hx (dc kL_law_2 7 rfl) rfl 0 rfl rfl ?_
            refine j_iload_n (q := 363) hx (dc kL_law_2 8 rfl) rfl 3 rfl rfl ?_
            refine j_iconst (q := 364) (v := (1 : Int32)) hx (dc kL_law_2 9 rfl) (by decide) rfl ?_
            refine j_iadd (q := 365) hx (dc kL_law_2 10 rfl) rfl ?_
            refine j_ldI (q := 366) hx (dc kL_law_2 11 rfl) rfl (fun v49 => ?_)
            refine j_aload_n (q := 367) hx (dc kL_law_2 12 rfl) rfl 0 rfl rfl ?_
            refine j_iload_n (q := 368) hx (dc kL_law_2 13 rfl) rfl 3 rfl rfl ?_
            refine j_iconst (q := 369) (v := (2 : Int32)) hx (dc kL_law_2 14 rfl) (by decide) rfl ?_
            refine j_iadd (q := 370) hx (dc kL_law_2 15 rfl) rfl ?_
            refine j_ldI (q := 371) hx (dc kL_law_2 16 rfl) rfl (fun v50 => ?_)
            refine j_aload_n (q := 372) hx (dc kL_law_2 17 rfl) rfl 0 rfl rfl ?_
            refine j_iload_n (q := 373) hx (dc kL_law_2 18 rfl) rfl 3 rfl rfl ?_
            refine j_iconst (q := 374) (v := (3 : Int32)) hx (dc kL_law_2 19 rfl) (by decide) rfl ?_
            refine j_iadd (q := 375) hx (dc kL_law_2 20 rfl) rfl ?_
            refine j_ldI (q := 376) hx (dc kL_law_2 21 rfl) rfl (fun v51 => ?_)
            refine w_cVIW (q := 379) (As := [.int v49, .int v50, .int v51]) (st := []) hx (dc kL_law_2 22 rfl) cf11 (by decide) rfl (cI _ my_X11_element lm_L_41 (by decide)) vs_X11_element rfl (fun u hu => sX11_element _ _ _ _ _ _ _ _ hu) (fun e => ite_ne (by unfold mX11_element at e; exact e)) (Nat.zero_le _) rfl (fun v52 h53 => ?_)
            refine j_aload_n (q := 380) hx (dc kL_law_2 23 rfl) rfl 2 rfl rfl ?_
            refine j_aload_n (q := 381) hx (dc kL_law_2 24 rfl) rfl 0 rfl rfl ?_
            refine j_iload_n (q := 382) hx (dc kL_law_2 25 rfl) rfl 3 rfl rfl ?_
            refine j_iconst (q := 383) (v := (1 : Int32)) hx (dc kL_law_2 26 rfl) (by decide) rfl ?_
            refine j_iadd (q := 384) hx (dc kL_law_2 27 rfl) rfl ?_
            refine j_ldI (q := 385) hx (dc kL_law_2 28 rfl) rfl (fun v54 => ?_)
            refine j_aload_n (q := 386) hx (dc kL_law_2 29 rfl) rfl 0 rfl rfl ?_
            refine j_iload_n (q := 387) hx (dc kL_law_2 30 rfl) rfl 3 rfl rfl ?_
            refine j_iconst (q := 388) (v := (2 : Int32)) hx (dc kL_law_2 31 rfl) (by decide) rfl ?_
            refine j_iadd (q := 389) hx (dc kL_law_2 32 rfl) rfl ?_
            refine j_ldI (q := 390) hx (dc kL_law_2 33 rfl) rfl (fun v55 => ?_)
            refine j_aload_n (q := 391) hx (dc kL_law_2 34 rfl) rfl 0 rfl rfl ?_
            refine j_iload_n (q := 392) hx (dc kL_law_2 35 rfl) rfl 3 rfl rfl ?_
            refine j_iconst (q := 393) (v := (3 : Int32)) hx (dc kL_law_2 36 rfl) (by decide) rfl ?_
            refine j_iadd (q := 394) hx (dc kL_law_2 37 rfl) rfl ?_
            refine j_ldI (q := 395) hx (dc kL_law_2 38 rfl) rfl (fun v56 => ?_)
            refine w_cVIW (q := 398) (As := [.int v54, .int v55, .int v56]) (st := [.int v52]) hx (dc kL_law_2 39 rfl) cf12 (by decide) rfl (cI _ my_X12_element lm_L_45 (by decide)) vs_X12_element rfl (fun u hu => sX12_element _ _ _ _ _ _ _ _ hu) (fun e => ite_ne (by unfold mX12_element at e; exact e)) (sum_le (sum_I sum_nil) (by decide)) rfl (fun v57 h58 => ?_)
            refine j_icmp_eq (q := 401) (tgt := 1414) hx (dc kL_law_2 40 rfl) (by decide) Iff.rfl rfl ?_ ?_
            · exact hb1414 x0 x1 x2 x3 h58
            · refine j_exit ?_
              refine j_iconst (q := 402) (v := (0 : Int32)) hx (dc kL_law_2 41 rfl) (by decide) rfl ?_
              exact r_law hx hR (dc kL_law_2 42 rfl)
          · refine j_aload_n (q := 404) hx (dc kL_law_2 43 rfl) rfl 1 rfl rfl ?_
            refine j_aload_n (q := 405) hx (dc kL_law_2 44 rfl) rfl 0 rfl rfl ?_
            refine j_iload_n (q := 406) hx (dc kL_law_2 45 rfl) rfl 3 rfl rfl ?_
            refine j_iconst (q := 407) (v := (1 : Int32)) hx (dc kL_law_2 46 rfl) (by decide) rfl ?_
            refine j_iadd (q := 408) hx (dc kL_law_2 47 rfl) rfl ?_
            refine j_ldI (q := 409) hx (dc kL_law_2 48 rfl) rfl (fun v59 => ?_)
            refine j_aload_n (q := 410) hx (dc kL_law_2 49 rfl) rfl 0 rfl rfl ?_
            refine j_iload_n (q := 411) hx (dc kL_law_2 50 rfl) rfl 3 rfl rfl ?_
            refine j_iconst (q := 412) (v := (2 : Int32)) hx (dc kL_law_2 51 rfl) (by decide) rfl ?_
            refine j_iadd (q := 413) hx (dc kL_law_2 52 rfl) rfl ?_
            refine j_ldI (q := 414) hx (dc kL_law_2 53 rfl) rfl (fun v60 => ?_)
            refine j_aload_n (q := 415) hx (dc kL_law_2 54 rfl) rfl 0 rfl rfl ?_
            refine j_iload_n (q := 416) hx (dc kL_law_2 55 rfl) rfl 3 rfl rfl ?_
            refine j_iconst (q := 417) (v := (3 : Int32)) hx (dc kL_law_2 56 rfl) (by decide) rfl ?_
            refine j_iadd (q := 418) hx (dc kL_law_2 57 rfl) rfl ?_
            refine j_ldI (q := 419) hx (dc kL_law_2 58 rfl) rfl (fun v61 => ?_)
            refine w_cVIW (q := 422) (As := [.int v59, .int v60, .int v61]) (st := []) hx (dc kL_law_2 59 rfl) cf11 (by decide) rfl (cI _ my_X11_bar lm_L_46 (by decide)) vs_X11_bar rfl (fun u hu => sX11_bar _ _ _ _ _ _ _ _ hu) (fun e => ite_ne (by unfold mX11_bar at e; exact e)) (Nat.zero_le _) rfl (fun v62 h63 => ?_)
            refine j_aload_n (q := 423) hx (dc kL_law_2 60 rfl) rfl 2 rfl rfl ?_
            refine j_aload_n (q := 424) hx (dc kL_law_2 61 rfl) rfl 0 rfl rfl ?_
            refine j_iload_n (q := 425) hx (dc kL_law_2 62 rfl) rfl 3 rfl rfl ?_
            refine j_iconst (q := 426) (v := (1 : Int32)) hx (dc kL_law_2 63 rfl) (by decide) rfl ?_
            refine j_iadd (q := 427) hx (dc kL_law_3 0 rfl) rfl ?_
            refine j_ldI (q := 428) hx (dc kL_law_3 1 rfl) rfl (fun v64 => ?_)
            refine j_aload_n (q := 429) hx (dc kL_law_3 2 rfl) rfl 0 rfl rfl ?_
            refine j_iload_n (q := 430) hx (dc kL_law_3 3 rfl) rfl 3 rfl rfl ?_
            refine j_iconst (q := 431) (v := (2 : Int32)) hx (dc kL_law_3 4 rfl) (by decide) rfl ?_
            refine j_iadd (q := 432) hx (dc kL_law_3 5 rfl) rfl ?_
            refine j_ldI (q := 433) hx (dc kL_law_3 6 rfl) rfl (fun v65 => ?_)
            refine j_aload_n (q := 434) hx (dc kL_law_3 7 rfl) rfl 0 rfl rfl ?_
            refine j_iload_n (q := 435) hx (dc kL_law_3 8 rfl) rfl 3 rfl rfl ?_
            refine j_iconst (q := 436) (v := (3 : Int32)) hx (dc kL_law_3 9 rfl) (by decide) rfl ?_
            refine j_iadd (q := 437) hx (dc kL_law_3 10 rfl) rfl ?_
            refine j_ldI (q := 438) hx (dc kL_law_3 11 rfl) rfl (fun v66 => ?_)
            refine w_cVIW (q := 441) (As := [.int v64, .int v65, .int v66]) (st := [.int v62]) hx (dc kL_law_3 12 rfl) cf12 (by decide) rfl (cI _ my_X12_bar lm_L_49 (by decide)) vs_X12_bar rfl (fun u hu => sX12_bar _ _ _ _ _ _ _ _ hu) (fun e => ite_ne (by unfold mX12_bar at e; exact e)) (sum_le (sum_I sum_nil) (by decide)) rfl (fun v67 h68 => ?_)
            refine j_icmp_eq (q := 444) (tgt := 1414) hx (dc kL_law_3 13 rfl) (by decide) Iff.rfl rfl ?_ ?_
            · exact hb1414 x0 x1 x2 x3 h68
            · refine j_exit ?_
              refine j_iconst (q := 445) (v := (0 : Int32)) hx (dc kL_law_3 14 rfl) (by decide) rfl ?_
              exact r_law hx hR (dc kL_law_3 15 rfl)
          · refine j_aload_n (q := 447) hx (dc kL_law_3 16 rfl) rfl 1 rfl rfl ?_
            refine j_aload_n (q := 448) hx (dc kL_law_3 17 rfl) rfl 0 rfl rfl ?_
            refine j_iload_n (q := 449) hx (dc kL_law_3 18 rfl) rfl 3 rfl rfl ?_
            refine j_iconst (q := 450) (v := (1 : Int32)) hx (dc kL_law_3 19 rfl) (by decide) rfl ?_
            refine j_iadd (q := 451) hx (dc kL_law_3 20 rfl) rfl ?_
            refine j_ldI (q := 452) hx (dc kL_law_3 21 rfl) rfl (fun v69 => ?_)
            refine j_aload_n (q := 453) hx (dc kL_law_3 22 rfl) rfl 0 rfl rfl ?_
            refine j_iload_n (q := 454) hx (dc kL_law_3 23 rfl) rfl 3 rfl rfl ?_
            refine j_iconst (q := 455) (v := (2 : Int32)) hx (dc kL_law_3 24 rfl) (by decide) rfl ?_
            refine j_iadd (q := 456) hx (dc kL_law_3 25 rfl) rfl ?_
            refine j_ldI (q := 457) hx (dc kL_law_3 26 rfl) rfl (fun v70 => ?_)
            refine w_cVIW (q := 460) (As := [.int v69, .int v70]) (st := []) hx (dc kL_law_3 27 rfl) cf11 (by decide) rfl (cI _ my_X11_answer lm_L_50 (by decide)) vs_X11_answer rfl (fun u hu => sX11_answer _ _ _ _ _ _ _ hu) (fun e => ite_ne (by unfold mX11_answer at e; exact e)) (Nat.zero_le _) rfl (fun v71 h72 => ?_)
            refine j_aload_n (q := 461) hx (dc kL_law_3 28 rfl) rfl 2 rfl rfl ?_
            refine j_aload_n (q := 462) hx (dc kL_law_3 29 rfl) rfl 0 rfl rfl ?_
            refine j_iload_n (q := 463) hx (dc kL_law_3 30 rfl) rfl 3 rfl rfl ?_
            refine j_iconst (q := 464) (v := (1 : Int32)) hx (dc kL_law_3 31 rfl) (by decide) rfl ?_
            refine j_iadd (q := 465) hx (dc kL_law_3 32 rfl) rfl ?_
            refine j_ldI (q := 466) hx (dc kL_law_3 33 rfl) rfl (fun v73 => ?_)
            refine j_aload_n (q := 467) hx (dc kL_law_3 34 rfl) rfl 0 rfl rfl ?_
            refine j_iload_n (q := 468) hx (dc kL_law_3 35 rfl) rfl 3 rfl rfl ?_
            refine j_iconst (q := 469) (v := (2 : Int32)) hx (dc kL_law_3 36 rfl) (by decide) rfl ?_
            refine j_iadd (q := 470) hx (dc kL_law_3 37 rfl) rfl ?_
            refine j_ldI (q := 471) hx (dc kL_law_3 38 rfl) rfl (fun v74 => ?_)
            refine w_cVIW (q := 474) (As := [.int v73, .int v74]) (st := [.int v71]) hx (dc kL_law_3 39 rfl) cf12 (by decide) rfl (cI _ my_X12_answer lm_L_53 (by decide)) vs_X12_answer rfl (fun u hu => sX12_answer _ _ _ _ _ _ _ hu) (fun e => ite_ne (by unfold mX12_answer at e; exact e)) (sum_le (sum_I sum_nil) (by decide)) rfl (fun v75 h76 => ?_)
            refine j_icmp_eq (q := 477) (tgt := 1414) hx (dc kL_law_3 40 rfl) (by decide) Iff.rfl rfl ?_ ?_
            · exact hb1414 x0 x1 x2 x3 h76
            · refine j_exit ?_
              refine j_iconst (q := 478) (v := (0 : Int32)) hx (dc kL_law_3 41 rfl) (by decide) rfl ?_
              exact r_law hx hR (dc kL_law_3 42 rfl)
          · refine j_aload_n (q := 480) hx (dc kL_law_3 43 rfl) rfl 1 rfl rfl ?_
            refine j_aload_n (q := 481) hx (dc kL_law_3 44 rfl) rfl 0 rfl rfl ?_
            refine j_iload_n (q := 482) hx (dc kL_law_3 45 rfl) rfl 3 rfl rfl ?_
            refine j_iconst (q := 483) (v := (1 : Int32)) hx (dc kL_law_3 46 rfl) (by decide) rfl ?_
            refine j_iadd (q := 484) hx (dc kL_law_3 47 rfl) rfl ?_
            refine j_ldI (q := 485) hx (dc kL_law_3 48 rfl) rfl (fun v77 => ?_)
            refine w_cVIW (q := 488) (As := [.int v77]) (st := []) hx (dc kL_law_3 49 rfl) cf11 (by decide) rfl (cI _ my_X11_withdraw lm_L_54 (by decide)) vs_X11_withdraw rfl (fun u hu => sX11_withdraw _ _ _ _ _ _ hu) (fun e => ite_ne (by unfold mX11_withdraw at e; exact e)) (Nat.zero_le _) rfl (fun v78 h79 => ?_)
            refine j_aload_n (q := 489) hx (dc kL_law_3 50 rfl) rfl 2 rfl rfl ?_
            refine j_aload_n (q := 490) hx (dc kL_law_3 51 rfl) rfl 0 rfl rfl ?_
            refine j_iload_n (q := 491) hx (dc kL_law_3 52 rfl) rfl 3 rfl rfl ?_
            refine j_iconst (q := 492) (v := (1 : Int32)) hx (dc kL_law_3 53 rfl) (by decide) rfl ?_
            refine j_iadd (q := 493) hx (dc kL_law_3 54 rfl) rfl ?_
            refine j_ldI (q := 494) hx (dc kL_law_3 55 rfl) rfl (fun v80 => ?_)
            refine w_cVIW (q := 497) (As := [.int v80]) (st := [.int v78]) hx (dc kL_law_3 56 rfl) cf12 (by decide) rfl (cI _ my_X12_withdraw lm_L_57 (by decide)) vs_X12_withdraw rfl (fun u hu => sX12_withdraw _ _ _ _ _ _ hu) (fun e => ite_ne (by unfold mX12_withdraw at e; exact e)) (sum_le (sum_I sum_nil) (by decide)) rfl (fun v81 h82 => ?_)
            refine j_icmp_eq (q := 500) (tgt := 1414) hx (dc kL_law_3 57 rfl) (by decide) Iff.rfl rfl ?_ ?_
            · exact hb1414 x0 x1 x2 x3 h82
            · refine j_exit ?_
              refine j_iconst (q := 501) (v := (0 : Int32)) hx (dc kL_law_3 58 rfl) (by decide) rfl ?_
              exact r_law hx hR (dc kL_law_3 59 rfl)
          · refine j_aload_n (q := 503) hx (dc kL_law_3 60 rfl) rfl 1 rfl rfl ?_
            refine w_cVIW (q := 506) (As := []) (st := []) hx (dc kL_law_3 61 rfl) cf11 (by decide) rfl (cI _ my_X11_close lm_L_58 (by decide)) vs_X11_close rfl (fun u hu => sX11_close _ _ _ _ _ hu) (fun e => ite_ne (by unfold mX11_close at e; exact e)) (Nat.zero_le _) rfl (fun v83 h84 => ?_)
            refine j_aload_n (q := 507) hx (dc kL_law_3 62 rfl) rfl 2 rfl rfl ?_
            refine w_cVIW (q := 510) (As := []) (st := [.int v83]) hx (dc kL_law_3 63 rfl) cf12 (by decide) rfl (cI _ my_X12_close lm_L_61 (by decide)) vs_X12_close rfl (fun u hu => sX12_close _ _ _ _ _ hu) (fun e => ite_ne (by unfold mX12_close at e; exact e)) (sum_le (sum_I sum_nil) (by decide)) rfl (fun v85 h86 => ?_)
            refine j_icmp_eq (q := 513) (tgt := 1414) hx (dc kL_law_4 0 rfl) (by decide) Iff.rfl rfl ?_ ?_
            · exact hb1414 x0 x1 x2 x3 h86
            · refine j_exit ?_
              refine j_iconst (q := 514) (v := (0 : Int32)) hx (dc kL_law_4 1 rfl) (by decide) rfl ?_
              exact r_law hx hR (dc kL_law_4 2 rfl)
          · refine j_aload_n (q := 516) hx (dc kL_law_4 3 rfl) rfl 1 rfl rfl ?_
            refine j_aload_n (q := 517) hx (dc kL_law_4 4 rfl) rfl 0 rfl rfl ?_
            refine j_iload_n (q := 518) hx (dc kL_law_4 5 rfl) rfl 3 rfl rfl ?_
            refine j_iconst (q := 519) (v := (1 : Int32)) hx (dc kL_law_4 6 rfl) (by decide) rfl ?_
            refine j_iadd (q := 520) hx (dc kL_law_4 7 rfl) rfl ?_
            refine j_ldI (q := 521) hx (dc kL_law_4 8 rfl) rfl (fun v87 => ?_)
            refine j_aload_n (q := 522) hx (dc kL_law_4 9 rfl) rfl 0 rfl rfl ?_
            refine j_iload_n (q := 523) hx (dc kL_law_4 10 rfl) rfl 3 rfl rfl ?_
            refine j_iconst (q := 524) (v := (2 : Int32)) hx (dc kL_law_4 11 rfl) (by decide) rfl ?_
            refine j_iadd (q := 525) hx (dc kL_law_4 12 rfl) rfl ?_
            refine j_ldI (q := 526) hx (dc kL_law_4 13 rfl) rfl (fun v88 => ?_)
            refine j_if_eq (q := 529) (tgt := 533) hx (dc kL_law_4 14 rfl) (by decide) Iff.rfl rfl ?_ ?_
            · refine j_iconst (q := 534) (v := (0 : Int32)) hx (dc kL_law_4 17 rfl) (by decide) rfl ?_
              exact hb534 x0 x1 x2 x3 x1 v87 (0 : Int32) h
            · refine j_iconst (q := 530) (v := (1 : Int32)) hx (dc kL_law_4 15 rfl) (by decide) rfl ?_
              refine j_goto (q := 534) hx (dc kL_law_4 16 rfl) (by decide) ?_
              exact hb534 x0 x1 x2 x3 x1 v87 (1 : Int32) h
          · refine j_aload_n (q := 565) hx (dc kL_law_4 38 rfl) rfl 1 rfl rfl ?_
            refine j_aload_n (q := 566) hx (dc kL_law_4 39 rfl) rfl 0 rfl rfl ?_
            refine j_iload_n (q := 567) hx (dc kL_law_4 40 rfl) rfl 3 rfl rfl ?_
            refine j_iconst (q := 568) (v := (1 : Int32)) hx (dc kL_law_4 41 rfl) (by decide) rfl ?_
            refine j_iadd (q := 569) hx (dc kL_law_4 42 rfl) rfl ?_
            refine j_ldI (q := 570) hx (dc kL_law_4 43 rfl) rfl (fun v95 => ?_)
            refine j_aload_n (q := 571) hx (dc kL_law_4 44 rfl) rfl 0 rfl rfl ?_
            refine j_iload_n (q := 572) hx (dc kL_law_4 45 rfl) rfl 3 rfl rfl ?_
            refine j_iconst (q := 573) (v := (2 : Int32)) hx (dc kL_law_4 46 rfl) (by decide) rfl ?_
            refine j_iadd (q := 574) hx (dc kL_law_4 47 rfl) rfl ?_
            refine j_ldI (q := 575) hx (dc kL_law_4 48 rfl) rfl (fun v96 => ?_)
            refine j_aload_n (q := 576) hx (dc kL_law_4 49 rfl) rfl 0 rfl rfl ?_
            refine j_iload_n (q := 577) hx (dc kL_law_4 50 rfl) rfl 3 rfl rfl ?_
            refine j_iconst (q := 578) (v := (3 : Int32)) hx (dc kL_law_4 51 rfl) (by decide) rfl ?_
            refine j_iadd (q := 579) hx (dc kL_law_4 52 rfl) rfl ?_
            refine j_ldI (q := 580) hx (dc kL_law_4 53 rfl) rfl (fun v97 => ?_)
            refine w_cVIW (q := 583) (As := [.int v95, .int v96, .int v97]) (st := []) hx (dc kL_law_4 54 rfl) cf11 (by decide) rfl (cI _ my_X11_say lm_L_67 (by decide)) vs_X11_say rfl (fun u hu => sX11_say _ _ _ _ _ _ _ _ hu) (fun e => ite_ne (by unfold mX11_say at e; exact e)) (Nat.zero_le _) rfl (fun v98 h99 => ?_)
            refine j_aload_n (q := 584) hx (dc kL_law_4 55 rfl) rfl 2 rfl rfl ?_
            refine j_aload_n (q := 585) hx (dc kL_law_4 56 rfl) rfl 0 rfl rfl ?_
            refine j_iload_n (q := 586) hx (dc kL_law_4 57 rfl) rfl 3 rfl rfl ?_
            refine j_iconst (q := 587) (v := (1 : Int32)) hx (dc kL_law_4 58 rfl) (by decide) rfl ?_
            refine j_iadd (q := 588) hx (dc kL_law_4 59 rfl) rfl ?_
            refine j_ldI (q := 589) hx (dc kL_law_4 60 rfl) rfl (fun v100 => ?_)
            refine j_aload_n (q := 590) hx (dc kL_law_4 61 rfl) rfl 0 rfl rfl ?_
            refine j_iload_n (q := 591) hx (dc kL_law_4 62 rfl) rfl 3 rfl rfl ?_
            refine j_iconst (q := 592) (v := (2 : Int32)) hx (dc kL_law_4 63 rfl) (by decide) rfl ?_
            refine j_iadd (q := 593) hx (dc kL_law_5 0 rfl) rfl ?_
            refine j_ldI (q := 594) hx (dc kL_law_5 1 rfl) rfl (fun v101 => ?_)
            refine j_aload_n (q := 595) hx (dc kL_law_5 2 rfl) rfl 0 rfl rfl ?_
            refine j_iload_n (q := 596) hx (dc kL_law_5 3 rfl) rfl 3 rfl rfl ?_
            refine j_iconst (q := 597) (v := (3 : Int32)) hx (dc kL_law_5 4 rfl) (by decide) rfl ?_
            refine j_iadd (q := 598) hx (dc kL_law_5 5 rfl) rfl ?_
            refine j_ldI (q := 599) hx (dc kL_law_5 6 rfl) rfl (fun v102 => ?_)
            refine w_cVIW (q := 602) (As := [.int v100, .int v101, .int v102]) (st := [.int v98]) hx (dc kL_law_5 7 rfl) cf12 (by decide) rfl (cI _ my_X12_say lm_L_70 (by decide)) vs_X12_say rfl (fun u hu => sX12_say _ _ _ _ _ _ _ _ hu) (fun e => ite_ne (by unfold mX12_say at e; exact e)) (sum_le (sum_I sum_nil) (by decide)) rfl (fun v103 h104 => ?_)
            refine j_icmp_eq (q := 605) (tgt := 1414) hx (dc kL_law_5 8 rfl) (by decide) Iff.rfl rfl ?_ ?_
            · exact hb1414 x0 x1 x2 x3 h104
            · refine j_exit ?_
              refine j_iconst (q := 606) (v := (0 : Int32)) hx (dc kL_law_5 9 rfl) (by decide) rfl ?_
              exact r_law hx hR (dc kL_law_5 10 rfl)
          · refine j_aload_n (q := 608) hx (dc kL_law_5 11 rfl) rfl 1 rfl rfl ?_
            refine j_aload_n (q := 609) hx (dc kL_law_5 12 rfl) rfl 0 rfl rfl ?_
            refine j_iload_n (q := 610) hx (dc kL_law_5 13 rfl) rfl 3 rfl rfl ?_
            refine j_iconst (q := 611) (v := (1 : Int32)) hx (dc kL_law_5 14 rfl) (by decide) rfl ?_
            refine j_iadd (q := 612) hx (dc kL_law_5 15 rfl) rfl ?_
            refine j_ldI (q := 613) hx (dc kL_law_5 16 rfl) rfl (fun v105 => ?_)
            refine j_aload_n (q := 614) hx (dc kL_law_5 17 rfl) rfl 0 rfl rfl ?_
            refine j_iload_n (q := 615) hx (dc kL_law_5 18 rfl) rfl 3 rfl rfl ?_
            refine j_iconst (q := 616) (v := (2 : Int32)) hx (dc kL_law_5 19 rfl) (by decide) rfl ?_
            refine j_iadd (q := 617) hx (dc kL_law_5 20 rfl) rfl ?_
            refine j_ldI (q := 618) hx (dc kL_law_5 21 rfl) rfl (fun v106 => ?_)
            refine j_aload_n (q := 619) hx (dc kL_law_5 22 rfl) rfl 0 rfl rfl ?_
            refine j_iload_n (q := 620) hx (dc kL_law_5 23 rfl) rfl 3 rfl rfl ?_
            refine j_iconst (q := 621) (v := (3 : Int32)) hx (dc kL_law_5 24 rfl) (by decide) rfl ?_
            refine j_iadd (q := 622) hx (dc kL_law_5 25 rfl) rfl ?_
            refine j_ldI (q := 623) hx (dc kL_law_5 26 rfl) rfl (fun v107 => ?_)
            refine w_cVIW (q := 626) (As := [.int v105, .int v106, .int v107]) (st := []) hx (dc kL_law_5 27 rfl) cf11 (by decide) rfl (cI _ my_X11_add lm_L_71 (by decide)) vs_X11_add rfl (fun u hu => sX11_add _ _ _ _ _ _ _ _ hu) (fun e => ite_ne (by unfold mX11_add at e; exact e)) (Nat.zero_le _) rfl (fun v108 h109 => ?_)
            refine j_aload_n (q := 627) hx (dc kL_law_5 28 rfl) rfl 2 rfl rfl ?_
            refine j_aload_n (q := 628) hx (dc kL_law_5 29 rfl) rfl 0 rfl rfl ?_
            refine j_iload_n (q := 629) hx (dc kL_law_5 30 rfl) rfl 3 rfl rfl ?_
            refine j_iconst (q := 630) (v := (1 : Int32)) hx (dc kL_law_5 31 rfl) (by decide) rfl ?_
            refine j_iadd (q := 631) hx (dc kL_law_5 32 rfl) rfl ?_
            refine j_ldI (q := 632) hx (dc kL_law_5 33 rfl) rfl (fun v110 => ?_)
            refine j_aload_n (q := 633) hx (dc kL_law_5 34 rfl) rfl 0 rfl rfl ?_
            refine j_iload_n (q := 634) hx (dc kL_law_5 35 rfl) rfl 3 rfl rfl ?_
            refine j_iconst (q := 635) (v := (2 : Int32)) hx (dc kL_law_5 36 rfl) (by decide) rfl ?_
            refine j_iadd (q := 636) hx (dc kL_law_5 37 rfl) rfl ?_
            refine j_ldI (q := 637) hx (dc kL_law_5 38 rfl) rfl (fun v111 => ?_)
            refine j_aload_n (q := 638) hx (dc kL_law_5 39 rfl) rfl 0 rfl rfl ?_
            refine j_iload_n (q := 639) hx (dc kL_law_5 40 rfl) rfl 3 rfl rfl ?_
            refine j_iconst (q := 640) (v := (3 : Int32)) hx (dc kL_law_5 41 rfl) (by decide) rfl ?_
            refine j_iadd (q := 641) hx (dc kL_law_5 42 rfl) rfl ?_
            refine j_ldI (q := 642) hx (dc kL_law_5 43 rfl) rfl (fun v112 => ?_)
            refine w_cVIW (q := 645) (As := [.int v110, .int v111, .int v112]) (st := [.int v108]) hx (dc kL_law_5 44 rfl) cf12 (by decide) rfl (cI _ my_X12_add lm_L_74 (by decide)) vs_X12_add rfl (fun u hu => sX12_add _ _ _ _ _ _ _ _ hu) (fun e => ite_ne (by unfold mX12_add at e; exact e)) (sum_le (sum_I sum_nil) (by decide)) rfl (fun v113 h114 => ?_)
            refine j_icmp_eq (q := 648) (tgt := 1414) hx (dc kL_law_5 45 rfl) (by decide) Iff.rfl rfl ?_ ?_
            · exact hb1414 x0 x1 x2 x3 h114
            · refine j_exit ?_
              refine j_iconst (q := 649) (v := (0 : Int32)) hx (dc kL_law_5 46 rfl) (by decide) rfl ?_
              exact r_law hx hR (dc kL_law_5 47 rfl)
          · refine j_aload_n (q := 651) hx (dc kL_law_5 48 rfl) rfl 1 rfl rfl ?_
            refine j_aload_n (q := 652) hx (dc kL_law_5 49 rfl) rfl 0 rfl rfl ?_
            refine j_iload_n (q := 653) hx (dc kL_law_5 50 rfl) rfl 3 rfl rfl ?_
            refine j_iconst (q := 654) (v := (1 : Int32)) hx (dc kL_law_5 51 rfl) (by decide) rfl ?_
            refine j_iadd (q := 655) hx (dc kL_law_5 52 rfl) rfl ?_
            refine j_ldI (q := 656) hx (dc kL_law_5 53 rfl) rfl (fun v115 => ?_)
            refine w_cVIW (q := 659) (As := [.int v115]) (st := []) hx (dc kL_law_5 54 rfl) cf11 (by decide) rfl (cI _ my_X11_strike lm_L_75 (by decide)) vs_X11_strike rfl (fun u hu => sX11_strike _ _ _ _ _ _ hu) (fun e => ite_ne (by unfold mX11_strike at e; exact e)) (Nat.zero_le _) rfl (fun v116 h117 => ?_)
            refine j_aload_n (q := 660) hx (dc kL_law_5 55 rfl) rfl 2 rfl rfl ?_
            refine j_aload_n (q := 661) hx (dc kL_law_5 56 rfl) rfl 0 rfl rfl ?_
            refine j_iload_n (q := 662) hx (dc kL_law_5 57 rfl) rfl 3 rfl rfl ?_
            refine j_iconst (q := 663) (v := (1 : Int32)) hx (dc kL_law_5 58 rfl) (by decide) rfl ?_
            refine j_iadd (q := 664) hx (dc kL_law_5 59 rfl) rfl ?_
            refine j_ldI (q := 665) hx (dc kL_law_5 60 rfl) rfl (fun v118 => ?_)
            refine w_cVIW (q := 668) (As := [.int v118]) (st := [.int v116]) hx (dc kL_law_5 61 rfl) cf12 (by decide) rfl (cI _ my_X12_strike lm_L_78 (by decide)) vs_X12_strike rfl (fun u hu => sX12_strike _ _ _ _ _ _ hu) (fun e => ite_ne (by unfold mX12_strike at e; exact e)) (sum_le (sum_I sum_nil) (by decide)) rfl (fun v119 h120 => ?_)
            refine j_icmp_eq (q := 671) (tgt := 1414) hx (dc kL_law_5 62 rfl) (by decide) Iff.rfl rfl ?_ ?_
            · exact hb1414 x0 x1 x2 x3 h120
            · refine j_exit ?_
              refine j_iconst (q := 672) (v := (0 : Int32)) hx (dc kL_law_5 63 rfl) (by decide) rfl ?_
              exact r_law hx hR (dc kL_law_6 0 rfl)
          · refine j_aload_n (q := 674) hx (dc kL_law_6 1 rfl) rfl 1 rfl rfl ?_
            refine j_aload_n (q := 675) hx (dc kL_law_6 2 rfl) rfl 0 rfl rfl ?_
            refine j_iload_n (q := 676) hx (dc kL_law_6 3 rfl) rfl 3 rfl rfl ?_
            refine j_iconst (q := 677) (v := (1 : Int32)) hx (dc kL_law_6 4 rfl) (by decide) rfl ?_
            refine j_iadd (q := 678) hx (dc kL_law_6 5 rfl) rfl ?_
            refine j_ldI (q := 679) hx (dc kL_law_6 6 rfl) rfl (fun v121 => ?_)
            refine w_cVIW (q := 682) (As := [.int v121]) (st := []) hx (dc kL_law_6 7 rfl) cf11 (by decide) rfl (cI _ my_X11_days lm_L_79 (by decide)) vs_X11_days rfl (fun u hu => sX11_days _ _ _ _ _ _ hu) (fun e => ite_ne (by unfold mX11_days at e; exact e)) (Nat.zero_le _) rfl (fun v122 h123 => ?_)
            refine j_aload_n (q := 683) hx (dc kL_law_6 8 rfl) rfl 2 rfl rfl ?_
            refine j_aload_n (q := 684) hx (dc kL_law_6 9 rfl) rfl 0 rfl rfl ?_
            refine j_iload_n (q := 685) hx (dc kL_law_6 10 rfl) rfl 3 rfl rfl ?_
            refine j_iconst (q := 686) (v := (1 : Int32)) hx (dc kL_law_6 11 rfl) (by decide) rfl ?_
            refine j_iadd (q := 687) hx (dc kL_law_6 12 rfl) rfl ?_
            refine j_ldI (q := 688) hx (dc kL_law_6 13 rfl) rfl (fun v124 => ?_)
            refine w_cVIW (q := 691) (As := [.int v124]) (st := [.int v122]) hx (dc kL_law_6 14 rfl) cf12 (by decide) rfl (cI _ my_X12_days lm_L_82 (by decide)) vs_X12_days rfl (fun u hu => sX12_days _ _ _ _ _ _ hu) (fun e => ite_ne (by unfold mX12_days at e; exact e)) (sum_le (sum_I sum_nil) (by decide)) rfl (fun v125 h126 => ?_)
            refine j_icmp_eq (q := 694) (tgt := 1414) hx (dc kL_law_6 15 rfl) (by decide) Iff.rfl rfl ?_ ?_
            · exact hb1414 x0 x1 x2 x3 h126
            · refine j_exit ?_
              refine j_iconst (q := 695) (v := (0 : Int32)) hx (dc kL_law_6 16 rfl) (by decide) rfl ?_
              exact r_law hx hR (dc kL_law_6 17 rfl)
          · refine j_aload_n (q := 697) hx (dc kL_law_6 18 rfl) rfl 1 rfl rfl ?_
            refine w_cVIW (q := 700) (As := []) (st := []) hx (dc kL_law_6 19 rfl) cf11 (by decide) rfl (cI _ my_X11_undo lm_L_83 (by decide)) vs_X11_undo rfl (fun u hu => sX11_undo _ _ _ _ _ hu) (fun e => ite_ne (by unfold mX11_undo at e; exact e)) (Nat.zero_le _) rfl (fun v127 h128 => ?_)
            refine j_aload_n (q := 701) hx (dc kL_law_6 20 rfl) rfl 2 rfl rfl ?_
            refine w_cVIW (q := 704) (As := []) (st := [.int v127]) hx (dc kL_law_6 21 rfl) cf12 (by decide) rfl (cI _ my_X12_undo lm_L_86 (by decide)) vs_X12_undo rfl (fun u hu => sX12_undo _ _ _ _ _ hu) (fun e => ite_ne (by unfold mX12_undo at e; exact e)) (sum_le (sum_I sum_nil) (by decide)) rfl (fun v129 h130 => ?_)
            refine j_icmp_eq (q := 707) (tgt := 1414) hx (dc kL_law_6 22 rfl) (by decide) Iff.rfl rfl ?_ ?_
            · exact hb1414 x0 x1 x2 x3 h130
            · refine j_exit ?_
              refine j_iconst (q := 708) (v := (0 : Int32)) hx (dc kL_law_6 23 rfl) (by decide) rfl ?_
              exact r_law hx hR (dc kL_law_6 24 rfl)
          · refine j_aload_n (q := 710) hx (dc kL_law_6 25 rfl) rfl 1 rfl rfl ?_
            refine j_aload_n (q := 711) hx (dc kL_law_6 26 rfl) rfl 0 rfl rfl ?_
            refine j_iload_n (q := 712) hx (dc kL_law_6 27 rfl) rfl 3 rfl rfl ?_
            refine j_iconst (q := 713) (v := (1 : Int32)) hx (dc kL_law_6 28 rfl) (by decide) rfl ?_
            refine j_iadd (q := 714) hx (dc kL_law_6 29 rfl) rfl ?_
            refine j_ldI (q := 715) hx (dc kL_law_6 30 rfl) rfl (fun v131 => ?_)
            refine w_cVIW (q := 718) (As := [.int v131]) (st := []) hx (dc kL_law_6 31 rfl) cf11 (by decide) rfl (cI _ my_X11_keep lm_L_87 (by decide)) vs_X11_keep rfl (fun u hu => sX11_keep _ _ _ _ _ _ hu) (fun e => ite_ne (by unfold mX11_keep at e; exact e)) (Nat.zero_le _) rfl (fun v132 h133 => ?_)
            refine j_aload_n (q := 719) hx (dc kL_law_6 32 rfl) rfl 2 rfl rfl ?_
            refine j_aload_n (q := 720) hx (dc kL_law_6 33 rfl) rfl 0 rfl rfl ?_
            refine j_iload_n (q := 721) hx (dc kL_law_6 34 rfl) rfl 3 rfl rfl ?_
            refine j_iconst (q := 722) (v := (1 : Int32)) hx (dc kL_law_6 35 rfl) (by decide) rfl ?_
            refine j_iadd (q := 723) hx (dc kL_law_6 36 rfl) rfl ?_
            refine j_ldI (q := 724) hx (dc kL_law_6 37 rfl) rfl (fun v134 => ?_)
            refine w_cVIW (q := 727) (As := [.int v134]) (st := [.int v132]) hx (dc kL_law_6 38 rfl) cf12 (by decide) rfl (cI _ my_X12_keep lm_L_90 (by decide)) vs_X12_keep rfl (fun u hu => sX12_keep _ _ _ _ _ _ hu) (fun e => ite_ne (by unfold mX12_keep at e; exact e)) (sum_le (sum_I sum_nil) (by decide)) rfl (fun v135 h136 => ?_)
            refine j_icmp_eq (q := 730) (tgt := 1414) hx (dc kL_law_6 39 rfl) (by decide) Iff.rfl rfl ?_ ?_
            · exact hb1414 x0 x1 x2 x3 h136
            · refine j_exit ?_
              refine j_iconst (q := 731) (v := (0 : Int32)) hx (dc kL_law_6 40 rfl) (by decide) rfl ?_
              exact r_law hx hR (dc kL_law_6 41 rfl)
          · refine j_aload_n (q := 733) hx (dc kL_law_6 42 rfl) rfl 1 rfl rfl ?_
            refine j_aload_n (q := 734) hx (dc kL_law_6 43 rfl) rfl 0 rfl rfl ?_
            refine j_iload_n (q := 735) hx (dc kL_law_6 44 rfl) rfl 3 rfl rfl ?_
            refine j_iconst (q := 736) (v := (1 : Int32)) hx (dc kL_law_6 45 rfl) (by decide) rfl ?_
            refine j_iadd (q := 737) hx (dc kL_law_6 46 rfl) rfl ?_
            refine j_ldI (q := 738) hx (dc kL_law_6 47 rfl) rfl (fun v137 => ?_)
            refine w_cVIW (q := 741) (As := [.int v137]) (st := []) hx (dc kL_law_6 48 rfl) cf11 (by decide) rfl (cI _ my_X11_again lm_L_91 (by decide)) vs_X11_again rfl (fun u hu => sX11_again _ _ _ _ _ _ hu) (fun e => ite_ne (by unfold mX11_again at e; exact e)) (Nat.zero_le _) rfl (fun v138 h139 => ?_)
            refine j_aload_n (q := 742) hx (dc kL_law_6 49 rfl) rfl 2 rfl rfl ?_
            refine j_aload_n (q := 743) hx (dc kL_law_6 50 rfl) rfl 0 rfl rfl ?_
            refine j_iload_n (q := 744) hx (dc kL_law_6 51 rfl) rfl 3 rfl rfl ?_
            refine j_iconst (q := 745) (v := (1 : Int32)) hx (dc kL_law_6 52 rfl) (by decide) rfl ?_
            refine j_iadd (q := 746) hx (dc kL_law_6 53 rfl) rfl ?_
            refine j_ldI (q := 747) hx (dc kL_law_6 54 rfl) rfl (fun v140 => ?_)
            refine w_cVIW (q := 750) (As := [.int v140]) (st := [.int v138]) hx (dc kL_law_6 55 rfl) cf12 (by decide) rfl (cI _ my_X12_again lm_L_94 (by decide)) vs_X12_again rfl (fun u hu => sX12_again _ _ _ _ _ _ hu) (fun e => ite_ne (by unfold mX12_again at e; exact e)) (sum_le (sum_I sum_nil) (by decide)) rfl (fun v141 h142 => ?_)
            refine j_icmp_eq (q := 753) (tgt := 1414) hx (dc kL_law_6 56 rfl) (by decide) Iff.rfl rfl ?_ ?_
            · exact hb1414 x0 x1 x2 x3 h142
            · refine j_exit ?_
              refine j_iconst (q := 754) (v := (0 : Int32)) hx (dc kL_law_6 57 rfl) (by decide) rfl ?_
              exact r_law hx hR (dc kL_law_6 58 rfl)
          · refine j_aload_n (q := 756) hx (dc kL_law_6 59 rfl) rfl 1 rfl rfl ?_
            refine j_aload_n (q := 757) hx (dc kL_law_6 60 rfl) rfl 0 rfl rfl ?_
            refine j_iload_n (q := 758) hx (dc kL_law_6 61 rfl) rfl 3 rfl rfl ?_
            refine j_iconst (q := 759) (v := (1 : Int32)) hx (dc kL_law_6 62 rfl) (by decide) rfl ?_
            refine j_iadd (q := 760) hx (dc kL_law_6 63 rfl) rfl ?_
            refine j_ldI (q := 761) hx (dc kL_law_7 0 rfl) rfl (fun v143 => ?_)
            refine w_cVIW (q := 764) (As := [.int v143]) (st := []) hx (dc kL_law_7 1 rfl) cf11 (by decide) rfl (cI _ my_X11_worlds lm_L_95 (by decide)) vs_X11_worlds rfl (fun u hu => sX11_worlds _ _ _ _ _ _ hu) (fun e => ite_ne (by unfold mX11_worlds at e; exact e)) (Nat.zero_le _) rfl (fun v144 h145 => ?_)
            refine j_aload_n (q := 765) hx (dc kL_law_7 2 rfl) rfl 2 rfl rfl ?_
            refine j_aload_n (q := 766) hx (dc kL_law_7 3 rfl) rfl 0 rfl rfl ?_
            refine j_iload_n (q := 767) hx (dc kL_law_7 4 rfl) rfl 3 rfl rfl ?_
            refine j_iconst (q := 768) (v := (1 : Int32)) hx (dc kL_law_7 5 rfl) (by decide) rfl ?_
            refine j_iadd (q := 769) hx (dc kL_law_7 6 rfl) rfl ?_
            refine j_ldI (q := 770) hx (dc kL_law_7 7 rfl) rfl (fun v146 => ?_)
            refine w_cVIR (q := 773) (As := [.int v146]) (st := [.int v144]) hx (dc kL_law_7 8 rfl) cf12 (by decide) rfl (cI _ my_X12_worlds lm_L_98 (by decide)) vs_X12_worlds rfl (fun u hu => sX12_worlds _ _ _ _ _ _ hu) (fun e => ite_ne (by unfold mX12_worlds at e; exact e)) (sum_le (sum_I sum_nil) (by decide)) rfl (fun v147 => ?_)
            refine j_icmp_eq (q := 776) (tgt := 1414) hx (dc kL_law_7 9 rfl) (by decide) Iff.rfl rfl ?_ ?_
            · exact hb1414 x0 x1 x2 x3 h145
            · refine j_exit ?_
              refine j_iconst (q := 777) (v := (0 : Int32)) hx (dc kL_law_7 10 rfl) (by decide) rfl ?_
              exact r_law hx hR (dc kL_law_7 11 rfl)
          · refine j_aload_n (q := 779) hx (dc kL_law_7 12 rfl) rfl 1 rfl rfl ?_
            refine j_aload_n (q := 780) hx (dc kL_law_7 13 rfl) rfl 0 rfl rfl ?_
            refine j_iload_n (q := 781) hx (dc kL_law_7 14 rfl) rfl 3 rfl rfl ?_
            refine j_iconst (q := 782) (v := (1 : Int32)) hx (dc kL_law_7 15 rfl) (by decide) rfl ?_
            refine j_iadd (q := 783) hx (dc kL_law_7 16 rfl) rfl ?_
            refine j_ldI (q := 784) hx (dc kL_law_7 17 rfl) rfl (fun v149 => ?_)
            refine j_aload_n (q := 785) hx (dc kL_law_7 18 rfl) rfl 0 rfl rfl ?_
            refine j_iload_n (q := 786) hx (dc kL_law_7 19 rfl) rfl 3 rfl rfl ?_
            refine j_iconst (q := 787) (v := (2 : Int32)) hx (dc kL_law_7 20 rfl) (by decide) rfl ?_
            refine j_iadd (q := 788) hx (dc kL_law_7 21 rfl) rfl ?_
            refine j_ldI (q := 789) hx (dc kL_law_7 22 rfl) rfl (fun v150 => ?_)
            refine w_cVIW (q := 792) (As := [.int v149, .int v150]) (st := []) hx (dc kL_law_7 23 rfl) cf11 (by decide) rfl (cI _ my_X11_clash lm_L_99 (by decide)) vs_X11_clash rfl (fun u hu => sX11_clash _ _ _ _ _ _ _ hu) (fun e => ite_ne (by unfold mX11_clash at e; exact e)) (Nat.zero_le _) rfl (fun v151 h152 => ?_)
            refine j_aload_n (q := 793) hx (dc kL_law_7 24 rfl) rfl 2 rfl rfl ?_
            refine j_aload_n (q := 794) hx (dc kL_law_7 25 rfl) rfl 0 rfl rfl ?_
            refine j_iload_n (q := 795) hx (dc kL_law_7 26 rfl) rfl 3 rfl rfl ?_
            refine j_iconst (q := 796) (v := (1 : Int32)) hx (dc kL_law_7 27 rfl) (by decide) rfl ?_
            refine j_iadd (q := 797) hx (dc kL_law_7 28 rfl) rfl ?_
            refine j_ldI (q := 798) hx (dc kL_law_7 29 rfl) rfl (fun v153 => ?_)
            refine j_aload_n (q := 799) hx (dc kL_law_7 30 rfl) rfl 0 rfl rfl ?_
            refine j_iload_n (q := 800) hx (dc kL_law_7 31 rfl) rfl 3 rfl rfl ?_
            refine j_iconst (q := 801) (v := (2 : Int32)) hx (dc kL_law_7 32 rfl) (by decide) rfl ?_
            refine j_iadd (q := 802) hx (dc kL_law_7 33 rfl) rfl ?_
            refine j_ldI (q := 803) hx (dc kL_law_7 34 rfl) rfl (fun v154 => ?_)
            refine w_cVIW (q := 806) (As := [.int v153, .int v154]) (st := [.int v151]) hx (dc kL_law_7 35 rfl) cf12 (by decide) rfl (cI _ my_X12_clash lm_L_102 (by decide)) vs_X12_clash rfl (fun u hu => sX12_clash _ _ _ _ _ _ _ hu) (fun e => ite_ne (by unfold mX12_clash at e; exact e)) (sum_le (sum_I sum_nil) (by decide)) rfl (fun v155 h156 => ?_)
            refine j_icmp_eq (q := 809) (tgt := 1414) hx (dc kL_law_7 36 rfl) (by decide) Iff.rfl rfl ?_ ?_
            · exact hb1414 x0 x1 x2 x3 h156
            · refine j_exit ?_
              refine j_iconst (q := 810) (v := (0 : Int32)) hx (dc kL_law_7 37 rfl) (by decide) rfl ?_
              exact r_law hx hR (dc kL_law_7 38 rfl)
          · refine j_aload_n (q := 812) hx (dc kL_law_7 39 rfl) rfl 1 rfl rfl ?_
            refine j_aload_n (q := 813) hx (dc kL_law_7 40 rfl) rfl 0 rfl rfl ?_
            refine j_iload_n (q := 814) hx (dc kL_law_7 41 rfl) rfl 3 rfl rfl ?_
            refine j_iconst (q := 815) (v := (1 : Int32)) hx (dc kL_law_7 42 rfl) (by decide) rfl ?_
            refine j_iadd (q := 816) hx (dc kL_law_7 43 rfl) rfl ?_
            refine j_ldI (q := 817) hx (dc kL_law_7 44 rfl) rfl (fun v157 => ?_)
            refine j_aload_n (q := 818) hx (dc kL_law_7 45 rfl) rfl 0 rfl rfl ?_
            refine j_iload_n (q := 819) hx (dc kL_law_7 46 rfl) rfl 3 rfl rfl ?_
            refine j_iconst (q := 820) (v := (2 : Int32)) hx (dc kL_law_7 47 rfl) (by decide) rfl ?_
            refine j_iadd (q := 821) hx (dc kL_law_7 48 rfl) rfl ?_
            refine j_ldI (q := 822) hx (dc kL_law_7 49 rfl) rfl (fun v158 => ?_)
            refine w_cVIW (q := 825) (As := [.int v157, .int v158]) (st := []) hx (dc kL_law_7 50 rfl) cf11 (by decide) rfl (cI _ my_X11_implied lm_L_103 (by decide)) vs_X11_implied rfl (fun u hu => sX11_implied _ _ _ _ _ _ _ hu) (fun e => ite_ne (by unfold mX11_implied at e; exact e)) (Nat.zero_le _) rfl (fun v159 h160 => ?_)
            refine j_aload_n (q := 826) hx (dc kL_law_7 51 rfl) rfl 2 rfl rfl ?_
            refine j_aload_n (q := 827) hx (dc kL_law_7 52 rfl) rfl 0 rfl rfl ?_
            refine j_iload_n (q := 828) hx (dc kL_law_7 53 rfl) rfl 3 rfl rfl ?_
            refine j_iconst (q := 829) (v := (1 : Int32)) hx (dc kL_law_7 54 rfl) (by decide) rfl ?_
            refine j_iadd (q := 830) hx (dc kL_law_7 55 rfl) rfl ?_
            refine j_ldI (q := 831) hx (dc kL_law_7 56 rfl) rfl (fun v161 => ?_)
            refine j_aload_n (q := 832) hx (dc kL_law_7 57 rfl) rfl 0 rfl rfl ?_
            refine j_iload_n (q := 833) hx (dc kL_law_7 58 rfl) rfl 3 rfl rfl ?_
            refine j_iconst (q := 834) (v := (2 : Int32)) hx (dc kL_law_7 59 rfl) (by decide) rfl ?_
            refine j_iadd (q := 835) hx (dc kL_law_7 60 rfl) rfl ?_
            refine j_ldI (q := 836) hx (dc kL_law_7 61 rfl) rfl (fun v162 => ?_)
            refine w_cVIR (q := 839) (As := [.int v161, .int v162]) (st := [.int v159]) hx (dc kL_law_7 62 rfl) cf12 (by decide) rfl (cI _ my_X12_implied lm_L_106 (by decide)) vs_X12_implied rfl (fun u hu => sX12_implied _ _ _ _ _ _ _ hu) (fun e => ite_ne (by unfold mX12_implied at e; exact e)) (sum_le (sum_I sum_nil) (by decide)) rfl (fun v163 => ?_)
            refine j_icmp_eq (q := 842) (tgt := 1414) hx (dc kL_law_7 63 rfl) (by decide) Iff.rfl rfl ?_ ?_
            · exact hb1414 x0 x1 x2 x3 h160
            · refine j_exit ?_
              refine j_iconst (q := 843) (v := (0 : Int32)) hx (dc kL_law_8 0 rfl) (by decide) rfl ?_
              exact r_law hx hR (dc kL_law_8 1 rfl)
          · refine j_aload_n (q := 845) hx (dc kL_law_8 2 rfl) rfl 1 rfl rfl ?_
            refine j_aload_n (q := 846) hx (dc kL_law_8 3 rfl) rfl 0 rfl rfl ?_
            refine j_iload_n (q := 847) hx (dc kL_law_8 4 rfl) rfl 3 rfl rfl ?_
            refine j_iconst (q := 848) (v := (1 : Int32)) hx (dc kL_law_8 5 rfl) (by decide) rfl ?_
            refine j_iadd (q := 849) hx (dc kL_law_8 6 rfl) rfl ?_
            refine j_ldI (q := 850) hx (dc kL_law_8 7 rfl) rfl (fun v165 => ?_)
            refine j_aload_n (q := 851) hx (dc kL_law_8 8 rfl) rfl 0 rfl rfl ?_
            refine j_iload_n (q := 852) hx (dc kL_law_8 9 rfl) rfl 3 rfl rfl ?_
            refine j_iconst (q := 853) (v := (2 : Int32)) hx (dc kL_law_8 10 rfl) (by decide) rfl ?_
            refine j_iadd (q := 854) hx (dc kL_law_8 11 rfl) rfl ?_
            refine j_ldI (q := 855) hx (dc kL_law_8 12 rfl) rfl (fun v166 => ?_)
            refine w_cVIW (q := 858) (As := [.int v165, .int v166]) (st := []) hx (dc kL_law_8 13 rfl) cf11 (by decide) rfl (cI _ my_X11_lacks lm_L_107 (by decide)) vs_X11_lacks rfl (fun u hu => sX11_lacks _ _ _ _ _ _ _ hu) (fun e => ite_ne (by unfold mX11_lacks at e; exact e)) (Nat.zero_le _) rfl (fun v167 h168 => ?_)
            refine j_aload_n (q := 859) hx (dc kL_law_8 14 rfl) rfl 2 rfl rfl ?_
            refine j_aload_n (q := 860) hx (dc kL_law_8 15 rfl) rfl 0 rfl rfl ?_
            refine j_iload_n (q := 861) hx (dc kL_law_8 16 rfl) rfl 3 rfl rfl ?_
            refine j_iconst (q := 862) (v := (1 : Int32)) hx (dc kL_law_8 17 rfl) (by decide) rfl ?_
            refine j_iadd (q := 863) hx (dc kL_law_8 18 rfl) rfl ?_
            refine j_ldI (q := 864) hx (dc kL_law_8 19 rfl) rfl (fun v169 => ?_)
            refine j_aload_n (q := 865) hx (dc kL_law_8 20 rfl) rfl 0 rfl rfl ?_
            refine j_iload_n (q := 866) hx (dc kL_law_8 21 rfl) rfl 3 rfl rfl ?_
            refine j_iconst (q := 867) (v := (2 : Int32)) hx (dc kL_law_8 22 rfl) (by decide) rfl ?_
            refine j_iadd (q := 868) hx (dc kL_law_8 23 rfl) rfl ?_
            refine j_ldI (q := 869) hx (dc kL_law_8 24 rfl) rfl (fun v170 => ?_)
            refine w_cVIW (q := 872) (As := [.int v169, .int v170]) (st := [.int v167]) hx (dc kL_law_8 25 rfl) cf12 (by decide) rfl (cI _ my_X12_lacks lm_L_110 (by decide)) vs_X12_lacks rfl (fun u hu => sX12_lacks _ _ _ _ _ _ _ hu) (fun e => ite_ne (by unfold mX12_lacks at e; exact e)) (sum_le (sum_I sum_nil) (by decide)) rfl (fun v171 h172 => ?_)
            refine j_icmp_eq (q := 875) (tgt := 1414) hx (dc kL_law_8 26 rfl) (by decide) Iff.rfl rfl ?_ ?_
            · exact hb1414 x0 x1 x2 x3 h172
            · refine j_exit ?_
              refine j_iconst (q := 876) (v := (0 : Int32)) hx (dc kL_law_8 27 rfl) (by decide) rfl ?_
              exact r_law hx hR (dc kL_law_8 28 rfl)
          · refine j_aload_n (q := 878) hx (dc kL_law_8 29 rfl) rfl 1 rfl rfl ?_
            refine j_aload_n (q := 879) hx (dc kL_law_8 30 rfl) rfl 0 rfl rfl ?_
            refine j_iload_n (q := 880) hx (dc kL_law_8 31 rfl) rfl 3 rfl rfl ?_
            refine j_iconst (q := 881) (v := (1 : Int32)) hx (dc kL_law_8 32 rfl) (by decide) rfl ?_
            refine j_iadd (q := 882) hx (dc kL_law_8 33 rfl) rfl ?_
            refine j_ldI (q := 883) hx (dc kL_law_8 34 rfl) rfl (fun v173 => ?_)
            refine j_aload_n (q := 884) hx (dc kL_law_8 35 rfl) rfl 0 rfl rfl ?_
            refine j_iload_n (q := 885) hx (dc kL_law_8 36 rfl) rfl 3 rfl rfl ?_
            refine j_iconst (q := 886) (v := (2 : Int32)) hx (dc kL_law_8 37 rfl) (by decide) rfl ?_
            refine j_iadd (q := 887) hx (dc kL_law_8 38 rfl) rfl ?_
            refine j_ldI (q := 888) hx (dc kL_law_8 39 rfl) rfl (fun v174 => ?_)
            refine w_cVIR (q := 891) (As := [.int v173, .int v174]) (st := []) hx (dc kL_law_8 40 rfl) cf11 (by decide) rfl (cI _ my_X11_grown lm_L_111 (by decide)) vs_X11_grown rfl (fun u hu => sX11_grown _ _ _ _ _ _ _ hu) (fun e => ite_ne (by unfold mX11_grown at e; exact e)) (Nat.zero_le _) rfl (fun v175 => ?_)
            refine j_aload_n (q := 892) hx (dc kL_law_8 41 rfl) rfl 2 rfl rfl ?_
            refine j_aload_n (q := 893) hx (dc kL_law_8 42 rfl) rfl 0 rfl rfl ?_
            refine j_iload_n (q := 894) hx (dc kL_law_8 43 rfl) rfl 3 rfl rfl ?_
            refine j_iconst (q := 895) (v := (1 : Int32)) hx (dc kL_law_8 44 rfl) (by decide) rfl ?_
            refine j_iadd (q := 896) hx (dc kL_law_8 45 rfl) rfl ?_
            refine j_ldI (q := 897) hx (dc kL_law_8 46 rfl) rfl (fun v177 => ?_)
            refine j_aload_n (q := 898) hx (dc kL_law_8 47 rfl) rfl 0 rfl rfl ?_
            refine j_iload_n (q := 899) hx (dc kL_law_8 48 rfl) rfl 3 rfl rfl ?_
            refine j_iconst (q := 900) (v := (2 : Int32)) hx (dc kL_law_8 49 rfl) (by decide) rfl ?_
            refine j_iadd (q := 901) hx (dc kL_law_8 50 rfl) rfl ?_
            refine j_ldI (q := 902) hx (dc kL_law_8 51 rfl) rfl (fun v178 => ?_)
            refine w_cVIR (q := 905) (As := [.int v177, .int v178]) (st := [.int v175]) hx (dc kL_law_8 52 rfl) cf12 (by decide) rfl (cI _ my_X12_grown lm_L_114 (by decide)) vs_X12_grown rfl (fun u hu => sX12_grown _ _ _ _ _ _ _ hu) (fun e => ite_ne (by unfold mX12_grown at e; exact e)) (sum_le (sum_I sum_nil) (by decide)) rfl (fun v179 => ?_)
            refine j_icmp_eq (q := 908) (tgt := 1414) hx (dc kL_law_8 53 rfl) (by decide) Iff.rfl rfl ?_ ?_
            · exact hb1414 x0 x1 x2 x3 h
            · refine j_exit ?_
              refine j_iconst (q := 909) (v := (0 : Int32)) hx (dc kL_law_8 54 rfl) (by decide) rfl ?_
              exact r_law hx hR (dc kL_law_8 55 rfl)
          · refine j_aload_n (q := 911) hx (dc kL_law_8 56 rfl) rfl 1 rfl rfl ?_
            refine j_aload_n (q := 912) hx (dc kL_law_8 57 rfl) rfl 0 rfl rfl ?_
            refine j_iload_n (q := 913) hx (dc kL_law_8 58 rfl) rfl 3 rfl rfl ?_
            refine j_iconst (q := 914) (v := (1 : Int32)) hx (dc kL_law_8 59 rfl) (by decide) rfl ?_
            refine j_iadd (q := 915) hx (dc kL_law_8 60 rfl) rfl ?_
            refine j_ldI (q := 916) hx (dc kL_law_8 61 rfl) rfl (fun v181 => ?_)
            refine w_cVIW (q := 919) (As := [.int v181]) (st := []) hx (dc kL_law_8 62 rfl) cf11 (by decide) rfl (cI _ my_X11_issues lm_L_115 (by decide)) vs_X11_issues rfl (fun u hu => sX11_issues _ _ _ _ _ _ hu) (fun e => ite_ne (by unfold mX11_issues at e; exact e)) (Nat.zero_le _) rfl (fun v182 h183 => ?_)
            refine j_aload_n (q := 920) hx (dc kL_law_8 63 rfl) rfl 2 rfl rfl ?_
            refine j_aload_n (q := 921) hx (dc kL_law_9 0 rfl) rfl 0 rfl rfl ?_
            refine j_iload_n (q := 922) hx (dc kL_law_9 1 rfl) rfl 3 rfl rfl ?_
            refine j_iconst (q := 923) (v := (1 : Int32)) hx (dc kL_law_9 2 rfl) (by decide) rfl ?_
            refine j_iadd (q := 924) hx (dc kL_law_9 3 rfl) rfl ?_
            refine j_ldI (q := 925) hx (dc kL_law_9 4 rfl) rfl (fun v184 => ?_)
            refine w_cVIR (q := 928) (As := [.int v184]) (st := [.int v182]) hx (dc kL_law_9 5 rfl) cf12 (by decide) rfl (cI _ my_X12_issues lm_L_118 (by decide)) vs_X12_issues rfl (fun u hu => sX12_issues _ _ _ _ _ _ hu) (fun e => ite_ne (by unfold mX12_issues at e; exact e)) (sum_le (sum_I sum_nil) (by decide)) rfl (fun v185 => ?_)
            refine j_icmp_eq (q := 931) (tgt := 1414) hx (dc kL_law_9 6 rfl) (by decide) Iff.rfl rfl ?_ ?_
            · exact hb1414 x0 x1 x2 x3 h183
            · refine j_exit ?_
              refine j_iconst (q := 932) (v := (0 : Int32)) hx (dc kL_law_9 7 rfl) (by decide) rfl ?_
              exact r_law hx hR (dc kL_law_9 8 rfl)
          · refine j_aload_n (q := 934) hx (dc kL_law_9 9 rfl) rfl 1 rfl rfl ?_
            refine j_aload_n (q := 935) hx (dc kL_law_9 10 rfl) rfl 0 rfl rfl ?_
            refine j_iload_n (q := 936) hx (dc kL_law_9 11 rfl) rfl 3 rfl rfl ?_
            refine j_iconst (q := 937) (v := (1 : Int32)) hx (dc kL_law_9 12 rfl) (by decide) rfl ?_
            refine j_iadd (q := 938) hx (dc kL_law_9 13 rfl) rfl ?_
            refine j_ldI (q := 939) hx (dc kL_law_9 14 rfl) rfl (fun v187 => ?_)
            refine w_cVIW (q := 942) (As := [.int v187]) (st := []) hx (dc kL_law_9 15 rfl) cf11 (by decide) rfl (cI _ my_X11_judged lm_L_119 (by decide)) vs_X11_judged rfl (fun u hu => sX11_judged _ _ _ _ _ _ hu) (fun e => ite_ne (by unfold mX11_judged at e; exact e)) (Nat.zero_le _) rfl (fun v188 h189 => ?_)
            refine j_aload_n (q := 943) hx (dc kL_law_9 16 rfl) rfl 2 rfl rfl ?_
            refine j_aload_n (q := 944) hx (dc kL_law_9 17 rfl) rfl 0 rfl rfl ?_
            refine j_iload_n (q := 945) hx (dc kL_law_9 18 rfl) rfl 3 rfl rfl ?_
            refine j_iconst (q := 946) (v := (1 : Int32)) hx (dc kL_law_9 19 rfl) (by decide) rfl ?_
            refine j_iadd (q := 947) hx (dc kL_law_9 20 rfl) rfl ?_
            refine j_ldI (q := 948) hx (dc kL_law_9 21 rfl) rfl (fun v190 => ?_)
            refine w_cVIW (q := 951) (As := [.int v190]) (st := [.int v188]) hx (dc kL_law_9 22 rfl) cf12 (by decide) rfl (cI _ my_X12_judged lm_L_122 (by decide)) vs_X12_judged rfl (fun u hu => sX12_judged _ _ _ _ _ _ hu) (fun e => ite_ne (by unfold mX12_judged at e; exact e)) (sum_le (sum_I sum_nil) (by decide)) rfl (fun v191 h192 => ?_)
            refine j_icmp_eq (q := 954) (tgt := 1414) hx (dc kL_law_9 23 rfl) (by decide) Iff.rfl rfl ?_ ?_
            · exact hb1414 x0 x1 x2 x3 h192
            · refine j_exit ?_
              refine j_iconst (q := 955) (v := (0 : Int32)) hx (dc kL_law_9 24 rfl) (by decide) rfl ?_
              exact r_law hx hR (dc kL_law_9 25 rfl)
          · refine j_aload_n (q := 957) hx (dc kL_law_9 26 rfl) rfl 1 rfl rfl ?_
            refine j_aload_n (q := 958) hx (dc kL_law_9 27 rfl) rfl 0 rfl rfl ?_
            refine j_iload_n (q := 959) hx (dc kL_law_9 28 rfl) rfl 3 rfl rfl ?_
            refine j_iconst (q := 960) (v := (1 : Int32)) hx (dc kL_law_9 29 rfl) (by decide) rfl ?_
            refine j_iadd (q := 961) hx (dc kL_law_9 30 rfl) rfl ?_
            refine j_ldI (q := 962) hx (dc kL_law_9 31 rfl) rfl (fun v193 => ?_)
            refine j_aload_n (q := 963) hx (dc kL_law_9 32 rfl) rfl 0 rfl rfl ?_
            refine j_iload_n (q := 964) hx (dc kL_law_9 33 rfl) rfl 3 rfl rfl ?_
            refine j_iconst (q := 965) (v := (2 : Int32)) hx (dc kL_law_9 34 rfl) (by decide) rfl ?_
            refine j_iadd (q := 966) hx (dc kL_law_9 35 rfl) rfl ?_
            refine j_ldI (q := 967) hx (dc kL_law_9 36 rfl) rfl (fun v194 => ?_)
            refine w_cVIW (q := 970) (As := [.int v193, .int v194]) (st := []) hx (dc kL_law_9 37 rfl) cf11 (by decide) rfl (cI _ my_X11_tries lm_L_123 (by decide)) vs_X11_tries rfl (fun u hu => sX11_tries _ _ _ _ _ _ _ hu) (fun e => ite_ne (by unfold mX11_tries at e; exact e)) (Nat.zero_le _) rfl (fun v195 h196 => ?_)
            refine j_aload_n (q := 971) hx (dc kL_law_9 38 rfl) rfl 2 rfl rfl ?_
            refine j_aload_n (q := 972) hx (dc kL_law_9 39 rfl) rfl 0 rfl rfl ?_
            refine j_iload_n (q := 973) hx (dc kL_law_9 40 rfl) rfl 3 rfl rfl ?_
            refine j_iconst (q := 974) (v := (1 : Int32)) hx (dc kL_law_9 41 rfl) (by decide) rfl ?_
            refine j_iadd (q := 975) hx (dc kL_law_9 42 rfl) rfl ?_
            refine j_ldI (q := 976) hx (dc kL_law_9 43 rfl) rfl (fun v197 => ?_)
            refine j_aload_n (q := 977) hx (dc kL_law_9 44 rfl) rfl 0 rfl rfl ?_
            refine j_iload_n (q := 978) hx (dc kL_law_9 45 rfl) rfl 3 rfl rfl ?_
            refine j_iconst (q := 979) (v := (2 : Int32)) hx (dc kL_law_9 46 rfl) (by decide) rfl ?_
            refine j_iadd (q := 980) hx (dc kL_law_9 47 rfl) rfl ?_
            refine j_ldI (q := 981) hx (dc kL_law_9 48 rfl) rfl (fun v198 => ?_)
            refine w_cVIW (q := 984) (As := [.int v197, .int v198]) (st := [.int v195]) hx (dc kL_law_9 49 rfl) cf12 (by decide) rfl (cI _ my_X12_tries lm_L_126 (by decide)) vs_X12_tries rfl (fun u hu => sX12_tries _ _ _ _ _ _ _ hu) (fun e => ite_ne (by unfold mX12_tries at e; exact e)) (sum_le (sum_I sum_nil) (by decide)) rfl (fun v199 h200 => ?_)
            refine j_icmp_eq (q := 987) (tgt := 1414) hx (dc kL_law_9 50 rfl) (by decide) Iff.rfl rfl ?_ ?_
            · exact hb1414 x0 x1 x2 x3 h200
            · refine j_exit ?_
              refine j_iconst (q := 988) (v := (0 : Int32)) hx (dc kL_law_9 51 rfl) (by decide) rfl ?_
              exact r_law hx hR (dc kL_law_9 52 rfl)
          · refine j_aload_n (q := 990) hx (dc kL_law_9 53 rfl) rfl 1 rfl rfl ?_
            refine j_aload_n (q := 991) hx (dc kL_law_9 54 rfl) rfl 0 rfl rfl ?_
            refine j_iload_n (q := 992) hx (dc kL_law_9 55 rfl) rfl 3 rfl rfl ?_
            refine j_iconst (q := 993) (v := (1 : Int32)) hx (dc kL_law_9 56 rfl) (by decide) rfl ?_
            refine j_iadd (q := 994) hx (dc kL_law_9 57 rfl) rfl ?_
            refine j_ldI (q := 995) hx (dc kL_law_9 58 rfl) rfl (fun v201 => ?_)
            refine j_aload_n (q := 996) hx (dc kL_law_9 59 rfl) rfl 0 rfl rfl ?_
            refine j_iload_n (q := 997) hx (dc kL_law_9 60 rfl) rfl 3 rfl rfl ?_
            refine j_iconst (q := 998) (v := (2 : Int32)) hx (dc kL_law_9 61 rfl) (by decide) rfl ?_
            refine j_iadd (q := 999) hx (dc kL_law_9 62 rfl) rfl ?_
            refine j_ldI (q := 1000) hx (dc kL_law_9 63 rfl) rfl (fun v202 => ?_)
            refine w_cVIW (q := 1003) (As := [.int v201, .int v202]) (st := []) hx (dc kL_law_10 0 rfl) cf11 (by decide) rfl (cI _ my_X11_chance lm_L_127 (by decide)) vs_X11_chance rfl (fun u hu => sX11_chance _ _ _ _ _ _ _ hu) (fun e => ite_ne (by unfold mX11_chance at e; exact e)) (Nat.zero_le _) rfl (fun v203 h204 => ?_)
            refine j_aload_n (q := 1004) hx (dc kL_law_10 1 rfl) rfl 2 rfl rfl ?_
            refine j_aload_n (q := 1005) hx (dc kL_law_10 2 rfl) rfl 0 rfl rfl ?_
            refine j_iload_n (q := 1006) hx (dc kL_law_10 3 rfl) rfl 3 rfl rfl ?_
            refine j_iconst (q := 1007) (v := (1 : Int32)) hx (dc kL_law_10 4 rfl) (by decide) rfl ?_
            refine j_iadd (q := 1008) hx (dc kL_law_10 5 rfl) rfl ?_
            refine j_ldI (q := 1009) hx (dc kL_law_10 6 rfl) rfl (fun v205 => ?_)
            refine j_aload_n (q := 1010) hx (dc kL_law_10 7 rfl) rfl 0 rfl rfl ?_
            refine j_iload_n (q := 1011) hx (dc kL_law_10 8 rfl) rfl 3 rfl rfl ?_
            refine j_iconst (q := 1012) (v := (2 : Int32)) hx (dc kL_law_10 9 rfl) (by decide) rfl ?_
            refine j_iadd (q := 1013) hx (dc kL_law_10 10 rfl) rfl ?_
            refine j_ldI (q := 1014) hx (dc kL_law_10 11 rfl) rfl (fun v206 => ?_)
            refine w_cVIW (q := 1017) (As := [.int v205, .int v206]) (st := [.int v203]) hx (dc kL_law_10 12 rfl) cf12 (by decide) rfl (cI _ my_X12_chance lm_L_130 (by decide)) vs_X12_chance rfl (fun u hu => sX12_chance _ _ _ _ _ _ _ hu) (fun e => ite_ne (by unfold mX12_chance at e; exact e)) (sum_le (sum_I sum_nil) (by decide)) rfl (fun v207 h208 => ?_)
            refine j_icmp_eq (q := 1020) (tgt := 1414) hx (dc kL_law_10 13 rfl) (by decide) Iff.rfl rfl ?_ ?_
            · exact hb1414 x0 x1 x2 x3 h208
            · refine j_exit ?_
              refine j_iconst (q := 1021) (v := (0 : Int32)) hx (dc kL_law_10 14 rfl) (by decide) rfl ?_
              exact r_law hx hR (dc kL_law_10 15 rfl)
          · refine j_aload_n (q := 1023) hx (dc kL_law_10 16 rfl) rfl 1 rfl rfl ?_
            refine j_aload_n (q := 1024) hx (dc kL_law_10 17 rfl) rfl 0 rfl rfl ?_
            refine j_iload_n (q := 1025) hx (dc kL_law_10 18 rfl) rfl 3 rfl rfl ?_
            refine j_iconst (q := 1026) (v := (1 : Int32)) hx (dc kL_law_10 19 rfl) (by decide) rfl ?_
            refine j_iadd (q := 1027) hx (dc kL_law_10 20 rfl) rfl ?_
            refine j_ldI (q := 1028) hx (dc kL_law_10 21 rfl) rfl (fun v209 => ?_)
            refine w_cVIW (q := 1031) (As := [.int v209]) (st := []) hx (dc kL_law_10 22 rfl) cf11 (by decide) rfl (cI _ my_X11_award lm_L_131 (by decide)) vs_X11_award rfl (fun u hu => sX11_award _ _ _ _ _ _ hu) (fun e => ite_ne (by unfold mX11_award at e; exact e)) (Nat.zero_le _) rfl (fun v210 h211 => ?_)
            refine j_aload_n (q := 1032) hx (dc kL_law_10 23 rfl) rfl 2 rfl rfl ?_
            refine j_aload_n (q := 1033) hx (dc kL_law_10 24 rfl) rfl 0 rfl rfl ?_
            refine j_iload_n (q := 1034) hx (dc kL_law_10 25 rfl) rfl 3 rfl rfl ?_
            refine j_iconst (q := 1035) (v := (1 : Int32)) hx (dc kL_law_10 26 rfl) (by decide) rfl ?_
            refine j_iadd (q := 1036) hx (dc kL_law_10 27 rfl) rfl ?_
            refine j_ldI (q := 1037) hx (dc kL_law_10 28 rfl) rfl (fun v212 => ?_)
            refine w_cVIW (q := 1040) (As := [.int v212]) (st := [.int v210]) hx (dc kL_law_10 29 rfl) cf12 (by decide) rfl (cI _ my_X12_award lm_L_134 (by decide)) vs_X12_award rfl (fun u hu => sX12_award _ _ _ _ _ _ hu) (fun e => ite_ne (by unfold mX12_award at e; exact e)) (sum_le (sum_I sum_nil) (by decide)) rfl (fun v213 h214 => ?_)
            refine j_icmp_eq (q := 1043) (tgt := 1414) hx (dc kL_law_10 30 rfl) (by decide) Iff.rfl rfl ?_ ?_
            · exact hb1414 x0 x1 x2 x3 h214
            · refine j_exit ?_
              refine j_iconst (q := 1044) (v := (0 : Int32)) hx (dc kL_law_10 31 rfl) (by decide) rfl ?_
              exact r_law hx hR (dc kL_law_10 32 rfl)
          · refine j_aload_n (q := 1046) hx (dc kL_law_10 33 rfl) rfl 1 rfl rfl ?_
            refine j_aload_n (q := 1047) hx (dc kL_law_10 34 rfl) rfl 0 rfl rfl ?_
            refine j_iload_n (q := 1048) hx (dc kL_law_10 35 rfl) rfl 3 rfl rfl ?_
            refine j_iconst (q := 1049) (v := (1 : Int32)) hx (dc kL_law_10 36 rfl) (by decide) rfl ?_
            refine j_iadd (q := 1050) hx (dc kL_law_10 37 rfl) rfl ?_
            refine j_ldI (q := 1051) hx (dc kL_law_10 38 rfl) rfl (fun v215 => ?_)
            refine w_cVJW (q := 1054) (As := [.int v215]) (st := []) hx (dc kL_law_10 39 rfl) cf11 (by decide) rfl (cI _ my_X11_meant lm_L_135 (by decide)) vs_X11_meant rfl (fun u hu => sX11_meant _ _ _ _ _ _ hu) (fun e => ite_ne (by unfold mX11_meant at e; exact e)) (Nat.zero_le _) rfl (fun v216 h217 => ?_)
            refine j_aload_n (q := 1055) hx (dc kL_law_10 40 rfl) rfl 2 rfl rfl ?_
            refine j_aload_n (q := 1056) hx (dc kL_law_10 41 rfl) rfl 0 rfl rfl ?_
            refine j_iload_n (q := 1057) hx (dc kL_law_10 42 rfl) rfl 3 rfl rfl ?_
            refine j_iconst (q := 1058) (v := (1 : Int32)) hx (dc kL_law_10 43 rfl) (by decide) rfl ?_
            refine j_iadd (q := 1059) hx (dc kL_law_10 44 rfl) rfl ?_
            refine j_ldI (q := 1060) hx (dc kL_law_10 45 rfl) rfl (fun v218 => ?_)
            refine w_cVJW (q := 1063) (As := [.int v218]) (st := [.long v216]) hx (dc kL_law_10 46 rfl) cf12 (by decide) rfl (cI _ my_X12_meant lm_L_139 (by decide)) vs_X12_meant rfl (fun u hu => sX12_meant _ _ _ _ _ _ hu) (fun e => ite_ne (by unfold mX12_meant at e; exact e)) (sum_le (sum_J sum_nil) (by decide)) rfl (fun v219 h220 => ?_)
            refine j_lcmp (q := 1064) hx (dc kL_law_10 47 rfl) rfl ?_
            refine j_if_eq (q := 1067) (tgt := 1414) hx (dc kL_law_10 48 rfl) (by decide) Iff.rfl rfl ?_ ?_
            · exact hb1414 x0 x1 x2 x3 h220
            · refine j_exit ?_
              refine j_iconst (q := 1068) (v := (0 : Int32)) hx (dc kL_law_10 49 rfl) (by decide) rfl ?_
              exact r_law hx hR (dc kL_law_10 50 rfl)
          · refine j_aload_n (q := 1070) hx (dc kL_law_10 51 rfl) rfl 1 rfl rfl ?_
            refine w_cVIW (q := 1073) (As := []) (st := []) hx (dc kL_law_10 52 rfl) cf11 (by decide) rfl (cI _ my_X11_outcomes lm_L_140 (by decide)) vs_X11_outcomes rfl (fun u hu => sX11_outcomes _ _ _ _ _ hu) (fun e => ite_ne (by unfold mX11_outcomes at e; exact e)) (Nat.zero_le _) rfl (fun v221 h222 => ?_)
            refine j_aload_n (q := 1074) hx (dc kL_law_10 53 rfl) rfl 2 rfl rfl ?_
            refine w_cVIW (q := 1077) (As := []) (st := [.int v221]) hx (dc kL_law_10 54 rfl) cf12 (by decide) rfl (cI _ my_X12_outcomes lm_L_143 (by decide)) vs_X12_outcomes rfl (fun u hu => sX12_outcomes _ _ _ _ _ hu) (fun e => ite_ne (by unfold mX12_outcomes at e; exact e)) (sum_le (sum_I sum_nil) (by decide)) rfl (fun v223 h224 => ?_)
            refine j_icmp_eq (q := 1080) (tgt := 1414) hx (dc kL_law_10 55 rfl) (by decide) Iff.rfl rfl ?_ ?_
            · exact hb1414 x0 x1 x2 x3 h224
            · refine j_exit ?_
              refine j_iconst (q := 1081) (v := (0 : Int32)) hx (dc kL_law_10 56 rfl) (by decide) rfl ?_
              exact r_law hx hR (dc kL_law_10 57 rfl)
          · refine j_aload_n (q := 1083) hx (dc kL_law_10 58 rfl) rfl 1 rfl rfl ?_
            refine j_aload_n (q := 1084) hx (dc kL_law_10 59 rfl) rfl 0 rfl rfl ?_
            refine j_iload_n (q := 1085) hx (dc kL_law_10 60 rfl) rfl 3 rfl rfl ?_
            refine j_iconst (q := 1086) (v := (1 : Int32)) hx (dc kL_law_10 61 rfl) (by decide) rfl ?_
            refine j_iadd (q := 1087) hx (dc kL_law_10 62 rfl) rfl ?_
            refine j_ldI (q := 1088) hx (dc kL_law_10 63 rfl) rfl (fun v225 => ?_)
            refine j_aload_n (q := 1089) hx (dc kL_law_11 0 rfl) rfl 0 rfl rfl ?_
            refine j_iload_n (q := 1090) hx (dc kL_law_11 1 rfl) rfl 3 rfl rfl ?_
            refine j_iconst (q := 1091) (v := (2 : Int32)) hx (dc kL_law_11 2 rfl) (by decide) rfl ?_
            refine j_iadd (q := 1092) hx (dc kL_law_11 3 rfl) rfl ?_
            refine j_ldI (q := 1093) hx (dc kL_law_11 4 rfl) rfl (fun v226 => ?_)
            refine w_cVIW (q := 1096) (As := [.int v225, .int v226]) (st := []) hx (dc kL_law_11 5 rfl) cf11 (by decide) rfl (cI _ my_X11_outcome lm_L_144 (by decide)) vs_X11_outcome rfl (fun u hu => sX11_outcome _ _ _ _ _ _ _ hu) (fun e => ite_ne (by unfold mX11_outcome at e; exact e)) (Nat.zero_le _) rfl (fun v227 h228 => ?_)
            refine j_aload_n (q := 1097) hx (dc kL_law_11 6 rfl) rfl 2 rfl rfl ?_
            refine j_aload_n (q := 1098) hx (dc kL_law_11 7 rfl) rfl 0 rfl rfl ?_
            refine j_iload_n (q := 1099) hx (dc kL_law_11 8 rfl) rfl 3 rfl rfl ?_
            refine j_iconst (q := 1100) (v := (1 : Int32)) hx (dc kL_law_11 9 rfl) (by decide) rfl ?_
            refine j_iadd (q := 1101) hx (dc kL_law_11 10 rfl) rfl ?_
            refine j_ldI (q := 1102) hx (dc kL_law_11 11 rfl) rfl (fun v229 => ?_)
            refine j_aload_n (q := 1103) hx (dc kL_law_11 12 rfl) rfl 0 rfl rfl ?_
            refine j_iload_n (q := 1104) hx (dc kL_law_11 13 rfl) rfl 3 rfl rfl ?_
            refine j_iconst (q := 1105) (v := (2 : Int32)) hx (dc kL_law_11 14 rfl) (by decide) rfl ?_
            refine j_iadd (q := 1106) hx (dc kL_law_11 15 rfl) rfl ?_
            refine j_ldI (q := 1107) hx (dc kL_law_11 16 rfl) rfl (fun v230 => ?_)
            refine w_cVIW (q := 1110) (As := [.int v229, .int v230]) (st := [.int v227]) hx (dc kL_law_11 17 rfl) cf12 (by decide) rfl (cI _ my_X12_outcome lm_L_147 (by decide)) vs_X12_outcome rfl (fun u hu => sX12_outcome _ _ _ _ _ _ _ hu) (fun e => ite_ne (by unfold mX12_outcome at e; exact e)) (sum_le (sum_I sum_nil) (by decide)) rfl (fun v231 h232 => ?_)
            refine j_icmp_eq (q := 1113) (tgt := 1414) hx (dc kL_law_11 18 rfl) (by decide) Iff.rfl rfl ?_ ?_
            · exact hb1414 x0 x1 x2 x3 h232
            · refine j_exit ?_
              refine j_iconst (q := 1114) (v := (0 : Int32)) hx (dc kL_law_11 19 rfl) (by decide) rfl ?_
              exact r_law hx hR (dc kL_law_11 20 rfl)
          · refine j_aload_n (q := 1116) hx (dc kL_law_11 21 rfl) rfl 1 rfl rfl ?_
            refine j_aload_n (q := 1117) hx (dc kL_law_11 22 rfl) rfl 0 rfl rfl ?_
            refine j_iload_n (q := 1118) hx (dc kL_law_11 23 rfl) rfl 3 rfl rfl ?_
            refine j_iconst (q := 1119) (v := (1 : Int32)) hx (dc kL_law_11 24 rfl) (by decide) rfl ?_
            refine j_iadd (q := 1120) hx (dc kL_law_11 25 rfl) rfl ?_
            refine j_ldI (q := 1121) hx (dc kL_law_11 26 rfl) rfl (fun v233 => ?_)
            refine j_aload_n (q := 1122) hx (dc kL_law_11 27 rfl) rfl 0 rfl rfl ?_
            refine j_iload_n (q := 1123) hx (dc kL_law_11 28 rfl) rfl 3 rfl rfl ?_
            refine j_iconst (q := 1124) (v := (2 : Int32)) hx (dc kL_law_11 29 rfl) (by decide) rfl ?_
            refine j_iadd (q := 1125) hx (dc kL_law_11 30 rfl) rfl ?_
            refine j_ldI (q := 1126) hx (dc kL_law_11 31 rfl) rfl (fun v234 => ?_)
            refine j_if_eq (q := 1129) (tgt := 1133) hx (dc kL_law_11 32 rfl) (by decide) Iff.rfl rfl ?_ ?_
            · refine j_iconst (q := 1134) (v := (0 : Int32)) hx (dc kL_law_11 35 rfl) (by decide) rfl ?_
              exact hb1134 x0 x1 x2 x3 x1 v233 (0 : Int32) h
            · refine j_iconst (q := 1130) (v := (1 : Int32)) hx (dc kL_law_11 33 rfl) (by decide) rfl ?_
              refine j_goto (q := 1134) hx (dc kL_law_11 34 rfl) (by decide) ?_
              exact hb1134 x0 x1 x2 x3 x1 v233 (1 : Int32) h
          · refine j_aload_n (q := 1165) hx (dc kL_law_11 56 rfl) rfl 1 rfl rfl ?_
            refine j_aload_n (q := 1166) hx (dc kL_law_11 57 rfl) rfl 0 rfl rfl ?_
            refine j_iload_n (q := 1167) hx (dc kL_law_11 58 rfl) rfl 3 rfl rfl ?_
            refine j_iconst (q := 1168) (v := (1 : Int32)) hx (dc kL_law_11 59 rfl) (by decide) rfl ?_
            refine j_iadd (q := 1169) hx (dc kL_law_11 60 rfl) rfl ?_
            refine j_ldI (q := 1170) hx (dc kL_law_11 61 rfl) rfl (fun v241 => ?_)
            refine j_aload_n (q := 1171) hx (dc kL_law_11 62 rfl) rfl 0 rfl rfl ?_
            refine j_iload_n (q := 1172) hx (dc kL_law_11 63 rfl) rfl 3 rfl rfl ?_
            refine j_iconst (q := 1173) (v := (2 : Int32)) hx (dc kL_law_12 0 rfl) (by decide) rfl ?_
            refine j_iadd (q := 1174) hx (dc kL_law_12 1 rfl) rfl ?_
            refine j_ldI (q := 1175) hx (dc kL_law_12 2 rfl) rfl (fun v242 => ?_)
            refine j_if_eq (q := 1178) (tgt := 1182) hx (dc kL_law_12 3 rfl) (by decide) Iff.rfl rfl ?_ ?_
            · refine j_iconst (q := 1183) (v := (0 : Int32)) hx (dc kL_law_12 6 rfl) (by decide) rfl ?_
              exact hb1183 x0 x1 x2 x3 x1 v241 (0 : Int32) h
            · refine j_iconst (q := 1179) (v := (1 : Int32)) hx (dc kL_law_12 4 rfl) (by decide) rfl ?_
              refine j_goto (q := 1183) hx (dc kL_law_12 5 rfl) (by decide) ?_
              exact hb1183 x0 x1 x2 x3 x1 v241 (1 : Int32) h
          · refine j_aload_n (q := 1234) hx (dc kL_law_12 47 rfl) rfl 1 rfl rfl ?_
            refine j_aload_n (q := 1235) hx (dc kL_law_12 48 rfl) rfl 0 rfl rfl ?_
            refine j_iload_n (q := 1236) hx (dc kL_law_12 49 rfl) rfl 3 rfl rfl ?_
            refine j_iconst (q := 1237) (v := (1 : Int32)) hx (dc kL_law_12 50 rfl) (by decide) rfl ?_
            refine j_iadd (q := 1238) hx (dc kL_law_12 51 rfl) rfl ?_
            refine j_ldI (q := 1239) hx (dc kL_law_12 52 rfl) rfl (fun v253 => ?_)
            refine j_aload_n (q := 1240) hx (dc kL_law_12 53 rfl) rfl 0 rfl rfl ?_
            refine j_iload_n (q := 1241) hx (dc kL_law_12 54 rfl) rfl 3 rfl rfl ?_
            refine j_iconst (q := 1242) (v := (2 : Int32)) hx (dc kL_law_12 55 rfl) (by decide) rfl ?_
            refine j_iadd (q := 1243) hx (dc kL_law_12 56 rfl) rfl ?_
            refine j_ldI (q := 1244) hx (dc kL_law_12 57 rfl) rfl (fun v254 => ?_)
            refine w_cVIW (q := 1247) (As := [.int v253, .int v254]) (st := []) hx (dc kL_law_12 58 rfl) cf11 (by decide) rfl (cI _ my_X11_duel lm_L_157 (by decide)) vs_X11_duel rfl (fun u hu => sX11_duel _ _ _ _ _ _ _ hu) (fun e => ite_ne (by unfold mX11_duel at e; exact e)) (Nat.zero_le _) rfl (fun v255 h256 => ?_)
            refine j_aload_n (q := 1248) hx (dc kL_law_12 59 rfl) rfl 2 rfl rfl ?_
            refine j_aload_n (q := 1249) hx (dc kL_law_12 60 rfl) rfl 0 rfl rfl ?_
            refine j_iload_n (q := 1250) hx (dc kL_law_12 61 rfl) rfl 3 rfl rfl ?_
            refine j_iconst (q := 1251) (v := (1 : Int32)) hx (dc kL_law_12 62 rfl) (by decide) rfl ?_
            refine j_iadd (q := 1252) hx (dc kL_law_12 63 rfl) rfl ?_
            refine j_ldI (q := 1253) hx (dc kL_law_13 0 rfl) rfl (fun v257 => ?_)
            refine j_aload_n (q := 1254) hx (dc kL_law_13 1 rfl) rfl 0 rfl rfl ?_
            refine j_iload_n (q := 1255) hx (dc kL_law_13 2 rfl) rfl 3 rfl rfl ?_
            refine j_iconst (q := 1256) (v := (2 : Int32)) hx (dc kL_law_13 3 rfl) (by decide) rfl ?_
            refine j_iadd (q := 1257) hx (dc kL_law_13 4 rfl) rfl ?_
            refine j_ldI (q := 1258) hx (dc kL_law_13 5 rfl) rfl (fun v258 => ?_)
            refine w_cVIW (q := 1261) (As := [.int v257, .int v258]) (st := [.int v255]) hx (dc kL_law_13 6 rfl) cf12 (by decide) rfl (cI _ my_X12_duel lm_L_160 (by decide)) vs_X12_duel rfl (fun u hu => sX12_duel _ _ _ _ _ _ _ hu) (fun e => ite_ne (by unfold mX12_duel at e; exact e)) (sum_le (sum_I sum_nil) (by decide)) rfl (fun v259 h260 => ?_)
            refine j_icmp_eq (q := 1264) (tgt := 1414) hx (dc kL_law_13 7 rfl) (by decide) Iff.rfl rfl ?_ ?_
            · exact hb1414 x0 x1 x2 x3 h260
            · refine j_exit ?_
              refine j_iconst (q := 1265) (v := (0 : Int32)) hx (dc kL_law_13 8 rfl) (by decide) rfl ?_
              exact r_law hx hR (dc kL_law_13 9 rfl)
          · refine j_aload_n (q := 1267) hx (dc kL_law_13 10 rfl) rfl 1 rfl rfl ?_
            refine j_aload_n (q := 1268) hx (dc kL_law_13 11 rfl) rfl 0 rfl rfl ?_
            refine j_iload_n (q := 1269) hx (dc kL_law_13 12 rfl) rfl 3 rfl rfl ?_
            refine j_iconst (q := 1270) (v := (1 : Int32)) hx (dc kL_law_13 13 rfl) (by decide) rfl ?_
            refine j_iadd (q := 1271) hx (dc kL_law_13 14 rfl) rfl ?_
            refine j_ldI (q := 1272) hx (dc kL_law_13 15 rfl) rfl (fun v261 => ?_)
            refine j_aload_n (q := 1273) hx (dc kL_law_13 16 rfl) rfl 0 rfl rfl ?_
            refine j_iload_n (q := 1274) hx (dc kL_law_13 17 rfl) rfl 3 rfl rfl ?_
            refine j_iconst (q := 1275) (v := (2 : Int32)) hx (dc kL_law_13 18 rfl) (by decide) rfl ?_
            refine j_iadd (q := 1276) hx (dc kL_law_13 19 rfl) rfl ?_
            refine j_ldI (q := 1277) hx (dc kL_law_13 20 rfl) rfl (fun v262 => ?_)
            refine j_aload_n (q := 1278) hx (dc kL_law_13 21 rfl) rfl 0 rfl rfl ?_
            refine j_iload_n (q := 1279) hx (dc kL_law_13 22 rfl) rfl 3 rfl rfl ?_
            refine j_iconst (q := 1280) (v := (3 : Int32)) hx (dc kL_law_13 23 rfl) (by decide) rfl ?_
            refine j_iadd (q := 1281) hx (dc kL_law_13 24 rfl) rfl ?_
            refine j_ldI (q := 1282) hx (dc kL_law_13 25 rfl) rfl (fun v263 => ?_)
            refine w_cVIW (q := 1285) (As := [.int v261, .int v262, .int v263]) (st := []) hx (dc kL_law_13 26 rfl) cf11 (by decide) rfl (cI _ my_X11_turn lm_L_161 (by decide)) vs_X11_turn rfl (fun u hu => sX11_turn _ _ _ _ _ _ _ _ hu) (fun e => ite_ne (by unfold mX11_turn at e; exact e)) (Nat.zero_le _) rfl (fun v264 h265 => ?_)
            refine j_aload_n (q := 1286) hx (dc kL_law_13 27 rfl) rfl 2 rfl rfl ?_
            refine j_aload_n (q := 1287) hx (dc kL_law_13 28 rfl) rfl 0 rfl rfl ?_
            refine j_iload_n (q := 1288) hx (dc kL_law_13 29 rfl) rfl 3 rfl rfl ?_
            refine j_iconst (q := 1289) (v := (1 : Int32)) hx (dc kL_law_13 30 rfl) (by decide) rfl ?_
            refine j_iadd (q := 1290) hx (dc kL_law_13 31 rfl) rfl ?_
            refine j_ldI (q := 1291) hx (dc kL_law_13 32 rfl) rfl (fun v266 => ?_)
            refine j_aload_n (q := 1292) hx (dc kL_law_13 33 rfl) rfl 0 rfl rfl ?_
            refine j_iload_n (q := 1293) hx (dc kL_law_13 34 rfl) rfl 3 rfl rfl ?_
            refine j_iconst (q := 1294) (v := (2 : Int32)) hx (dc kL_law_13 35 rfl) (by decide) rfl ?_
            refine j_iadd (q := 1295) hx (dc kL_law_13 36 rfl) rfl ?_
            refine j_ldI (q := 1296) hx (dc kL_law_13 37 rfl) rfl (fun v267 => ?_)
            refine j_aload_n (q := 1297) hx (dc kL_law_13 38 rfl) rfl 0 rfl rfl ?_
            refine j_iload_n (q := 1298) hx (dc kL_law_13 39 rfl) rfl 3 rfl rfl ?_
            refine j_iconst (q := 1299) (v := (3 : Int32)) hx (dc kL_law_13 40 rfl) (by decide) rfl ?_
            refine j_iadd (q := 1300) hx (dc kL_law_13 41 rfl) rfl ?_
            refine j_ldI (q := 1301) hx (dc kL_law_13 42 rfl) rfl (fun v268 => ?_)
            refine w_cVIW (q := 1304) (As := [.int v266, .int v267, .int v268]) (st := [.int v264]) hx (dc kL_law_13 43 rfl) cf12 (by decide) rfl (cI _ my_X12_turn lm_L_164 (by decide)) vs_X12_turn rfl (fun u hu => sX12_turn _ _ _ _ _ _ _ _ hu) (fun e => ite_ne (by unfold mX12_turn at e; exact e)) (sum_le (sum_I sum_nil) (by decide)) rfl (fun v269 h270 => ?_)
            refine j_icmp_eq (q := 1307) (tgt := 1414) hx (dc kL_law_13 44 rfl) (by decide) Iff.rfl rfl ?_ ?_
            · exact hb1414 x0 x1 x2 x3 h270
            · refine j_exit ?_
              refine j_iconst (q := 1308) (v := (0 : Int32)) hx (dc kL_law_13 45 rfl) (by decide) rfl ?_
              exact r_law hx hR (dc kL_law_13 46 rfl)
          · refine j_aload_n (q := 1310) hx (dc kL_law_13 47 rfl) rfl 1 rfl rfl ?_
            refine j_aload_n (q := 1311) hx (dc kL_law_13 48 rfl) rfl 0 rfl rfl ?_
            refine j_iload_n (q := 1312) hx (dc kL_law_13 49 rfl) rfl 3 rfl rfl ?_
            refine j_iconst (q := 1313) (v := (1 : Int32)) hx (dc kL_law_13 50 rfl) (by decide) rfl ?_
            refine j_iadd (q := 1314) hx (dc kL_law_13 51 rfl) rfl ?_
            refine j_ldI (q := 1315) hx (dc kL_law_13 52 rfl) rfl (fun v271 => ?_)
            refine w_cVIW (q := 1318) (As := [.int v271]) (st := []) hx (dc kL_law_13 53 rfl) cf11 (by decide) rfl (cI _ my_X11_together lm_L_165 (by decide)) vs_X11_together rfl (fun u hu => sX11_together _ _ _ _ _ _ hu) (fun e => ite_ne (by unfold mX11_together at e; exact e)) (Nat.zero_le _) rfl (fun v272 h273 => ?_)
            refine j_aload_n (q := 1319) hx (dc kL_law_13 54 rfl) rfl 2 rfl rfl ?_
            refine j_aload_n (q := 1320) hx (dc kL_law_13 55 rfl) rfl 0 rfl rfl ?_
            refine j_iload_n (q := 1321) hx (dc kL_law_13 56 rfl) rfl 3 rfl rfl ?_
            refine j_iconst (q := 1322) (v := (1 : Int32)) hx (dc kL_law_13 57 rfl) (by decide) rfl ?_
            refine j_iadd (q := 1323) hx (dc kL_law_13 58 rfl) rfl ?_
            refine j_ldI (q := 1324) hx (dc kL_law_13 59 rfl) rfl (fun v274 => ?_)
            refine w_cVIR (q := 1327) (As := [.int v274]) (st := [.int v272]) hx (dc kL_law_13 60 rfl) cf12 (by decide) rfl (cI _ my_X12_together lm_L_168 (by decide)) vs_X12_together rfl (fun u hu => sX12_together _ _ _ _ _ _ hu) (fun e => ite_ne (by unfold mX12_together at e; exact e)) (sum_le (sum_I sum_nil) (by decide)) rfl (fun v275 => ?_)
            refine j_icmp_eq (q := 1330) (tgt := 1414) hx (dc kL_law_13 61 rfl) (by decide) Iff.rfl rfl ?_ ?_
            · exact hb1414 x0 x1 x2 x3 h273
            · refine j_exit ?_
              refine j_iconst (q := 1331) (v := (0 : Int32)) hx (dc kL_law_13 62 rfl) (by decide) rfl ?_
              exact r_law hx hR (dc kL_law_13 63 rfl)
          · refine j_aload_n (q := 1333) hx (dc kL_law_14 0 rfl) rfl 1 rfl rfl ?_
            refine j_aload_n (q := 1334) hx (dc kL_law_14 1 rfl) rfl 0 rfl rfl ?_
            refine j_iload_n (q := 1335) hx (dc kL_law_14 2 rfl) rfl 3 rfl rfl ?_
            refine j_iconst (q := 1336) (v := (1 : Int32)) hx (dc kL_law_14 3 rfl) (by decide) rfl ?_
            refine j_iadd (q := 1337) hx (dc kL_law_14 4 rfl) rfl ?_
            refine j_ldI (q := 1338) hx (dc kL_law_14 5 rfl) rfl (fun v277 => ?_)
            refine w_cVIW (q := 1341) (As := [.int v277]) (st := []) hx (dc kL_law_14 6 rfl) cf11 (by decide) rfl (cI _ my_X11_elect lm_L_169 (by decide)) vs_X11_elect rfl (fun u hu => sX11_elect _ _ _ _ _ _ hu) (fun e => ite_ne (by unfold mX11_elect at e; exact e)) (Nat.zero_le _) rfl (fun v278 h279 => ?_)
            refine j_aload_n (q := 1342) hx (dc kL_law_14 7 rfl) rfl 2 rfl rfl ?_
            refine j_aload_n (q := 1343) hx (dc kL_law_14 8 rfl) rfl 0 rfl rfl ?_
            refine j_iload_n (q := 1344) hx (dc kL_law_14 9 rfl) rfl 3 rfl rfl ?_
            refine j_iconst (q := 1345) (v := (1 : Int32)) hx (dc kL_law_14 10 rfl) (by decide) rfl ?_
            refine j_iadd (q := 1346) hx (dc kL_law_14 11 rfl) rfl ?_
            refine j_ldI (q := 1347) hx (dc kL_law_14 12 rfl) rfl (fun v280 => ?_)
            refine w_cVIW (q := 1350) (As := [.int v280]) (st := [.int v278]) hx (dc kL_law_14 13 rfl) cf12 (by decide) rfl (cI _ my_X12_elect lm_L_172 (by decide)) vs_X12_elect rfl (fun u hu => sX12_elect _ _ _ _ _ _ hu) (fun e => ite_ne (by unfold mX12_elect at e; exact e)) (sum_le (sum_I sum_nil) (by decide)) rfl (fun v281 h282 => ?_)
            refine j_icmp_eq (q := 1353) (tgt := 1414) hx (dc kL_law_14 14 rfl) (by decide) Iff.rfl rfl ?_ ?_
            · exact hb1414 x0 x1 x2 x3 h282
            · refine j_exit ?_
              refine j_iconst (q := 1354) (v := (0 : Int32)) hx (dc kL_law_14 15 rfl) (by decide) rfl ?_
              exact r_law hx hR (dc kL_law_14 16 rfl)
          · refine j_aload_n (q := 1356) hx (dc kL_law_14 17 rfl) rfl 1 rfl rfl ?_
            refine w_cVIW (q := 1359) (As := []) (st := []) hx (dc kL_law_14 18 rfl) cf11 (by decide) rfl (cI _ my_X11_ask lm_L_173 (by decide)) vs_X11_ask rfl (fun u hu => sX11_ask _ _ _ _ _ hu) (fun e => ite_ne (by unfold mX11_ask at e; exact e)) (Nat.zero_le _) rfl (fun v283 h284 => ?_)
            refine j_aload_n (q := 1360) hx (dc kL_law_14 19 rfl) rfl 2 rfl rfl ?_
            refine w_cVIW (q := 1363) (As := []) (st := [.int v283]) hx (dc kL_law_14 20 rfl) cf12 (by decide) rfl (cI _ my_X12_ask lm_L_176 (by decide)) vs_X12_ask rfl (fun u hu => sX12_ask _ _ _ _ _ hu) (fun e => ite_ne (by unfold mX12_ask at e; exact e)) (sum_le (sum_I sum_nil) (by decide)) rfl (fun v285 h286 => ?_)
            refine j_icmp_eq (q := 1366) (tgt := 1414) hx (dc kL_law_14 21 rfl) (by decide) Iff.rfl rfl ?_ ?_
            · exact hb1414 x0 x1 x2 x3 h286
            · refine j_exit ?_
              refine j_iconst (q := 1367) (v := (0 : Int32)) hx (dc kL_law_14 22 rfl) (by decide) rfl ?_
              exact r_law hx hR (dc kL_law_14 23 rfl)
          · refine j_aload_n (q := 1369) hx (dc kL_law_14 24 rfl) rfl 1 rfl rfl ?_
            refine j_aload_n (q := 1370) hx (dc kL_law_14 25 rfl) rfl 0 rfl rfl ?_
            refine j_iload_n (q := 1371) hx (dc kL_law_14 26 rfl) rfl 3 rfl rfl ?_
            refine j_iconst (q := 1372) (v := (1 : Int32)) hx (dc kL_law_14 27 rfl) (by decide) rfl ?_
            refine j_iadd (q := 1373) hx (dc kL_law_14 28 rfl) rfl ?_
            refine j_ldI (q := 1374) hx (dc kL_law_14 29 rfl) rfl (fun v287 => ?_)
            refine w_cVIR (q := 1377) (As := [.int v287]) (st := []) hx (dc kL_law_14 30 rfl) cf11 (by decide) rfl (cI _ my_X11_asked lm_L_177 (by decide)) vs_X11_asked rfl (fun u hu => sX11_asked _ _ _ _ _ _ hu) (fun e => ite_ne (by unfold mX11_asked at e; exact e)) (Nat.zero_le _) rfl (fun v288 => ?_)
            refine j_aload_n (q := 1378) hx (dc kL_law_14 31 rfl) rfl 2 rfl rfl ?_
            refine j_aload_n (q := 1379) hx (dc kL_law_14 32 rfl) rfl 0 rfl rfl ?_
            refine j_iload_n (q := 1380) hx (dc kL_law_14 33 rfl) rfl 3 rfl rfl ?_
            refine j_iconst (q := 1381) (v := (1 : Int32)) hx (dc kL_law_14 34 rfl) (by decide) rfl ?_
            refine j_iadd (q := 1382) hx (dc kL_law_14 35 rfl) rfl ?_
            refine j_ldI (q := 1383) hx (dc kL_law_14 36 rfl) rfl (fun v290 => ?_)
            refine w_cVIR (q := 1386) (As := [.int v290]) (st := [.int v288]) hx (dc kL_law_14 37 rfl) cf12 (by decide) rfl (cI _ my_X12_asked lm_L_180 (by decide)) vs_X12_asked rfl (fun u hu => sX12_asked _ _ _ _ _ _ hu) (fun e => ite_ne (by unfold mX12_asked at e; exact e)) (sum_le (sum_I sum_nil) (by decide)) rfl (fun v291 => ?_)
            refine j_icmp_eq (q := 1389) (tgt := 1414) hx (dc kL_law_14 38 rfl) (by decide) Iff.rfl rfl ?_ ?_
            · exact hb1414 x0 x1 x2 x3 h
            · refine j_exit ?_
              refine j_iconst (q := 1390) (v := (0 : Int32)) hx (dc kL_law_14 39 rfl) (by decide) rfl ?_
              exact r_law hx hR (dc kL_law_14 40 rfl)
          · refine j_aload_n (q := 1392) hx (dc kL_law_14 41 rfl) rfl 1 rfl rfl ?_
            refine j_aload_n (q := 1393) hx (dc kL_law_14 42 rfl) rfl 0 rfl rfl ?_
            refine j_iload_n (q := 1394) hx (dc kL_law_14 43 rfl) rfl 3 rfl rfl ?_
            refine j_iconst (q := 1395) (v := (1 : Int32)) hx (dc kL_law_14 44 rfl) (by decide) rfl ?_
            refine j_iadd (q := 1396) hx (dc kL_law_14 45 rfl) rfl ?_
            refine j_ldI (q := 1397) hx (dc kL_law_14 46 rfl) rfl (fun v293 => ?_)
            refine w_cVIW (q := 1400) (As := [.int v293]) (st := []) hx (dc kL_law_14 47 rfl) cf11 (by decide) rfl (cI _ my_X11_count lm_L_181 (by decide)) vs_X11_count rfl (fun u hu => sX11_count _ _ _ _ _ _ hu) (fun e => ite_ne (by unfold mX11_count at e; exact e)) (Nat.zero_le _) rfl (fun v294 h295 => ?_)
            refine j_aload_n (q := 1401) hx (dc kL_law_14 48 rfl) rfl 2 rfl rfl ?_
            refine j_aload_n (q := 1402) hx (dc kL_law_14 49 rfl) rfl 0 rfl rfl ?_
            refine j_iload_n (q := 1403) hx (dc kL_law_14 50 rfl) rfl 3 rfl rfl ?_
            refine j_iconst (q := 1404) (v := (1 : Int32)) hx (dc kL_law_14 51 rfl) (by decide) rfl ?_
            refine j_iadd (q := 1405) hx (dc kL_law_14 52 rfl) rfl ?_
            refine j_ldI (q := 1406) hx (dc kL_law_14 53 rfl) rfl (fun v296 => ?_)
            refine w_cVIW (q := 1409) (As := [.int v296]) (st := [.int v294]) hx (dc kL_law_14 54 rfl) cf12 (by decide) rfl (cI _ my_X12_count lm_L_184 (by decide)) vs_X12_count rfl (fun u hu => sX12_count _ _ _ _ _ _ hu) (fun e => ite_ne (by unfold mX12_count at e; exact e)) (sum_le (sum_I sum_nil) (by decide)) rfl (fun v297 h298 => ?_)
            refine j_icmp_eq (q := 1412) (tgt := 1414) hx (dc kL_law_14 55 rfl) (by decide) Iff.rfl rfl ?_ ?_
            · exact hb1414 x0 x1 x2 x3 h298
            · refine j_exit ?_
              refine j_iconst (q := 1413) (v := (0 : Int32)) hx (dc kL_law_14 56 rfl) (by decide) rfl ?_
              exact r_law hx hR (dc kL_law_14 57 rfl)
    exact j_loop (S := (Int32 × Hp)) (lvf := fun s => [(0, vR x.2.2.2 x0), (1, vR x.2.2.2 x1), (2, vR x.2.2.2 x2), (3, .int s.1)]) (hpf := fun s => s.2) (f := (fun s : (Int32 × Hp) => mL_law_l18f x0 x1 x2 s.1 s.2)) (fun s => hB s.1 s.2) (x3, h)
  unfold mL_law
  refine j_new (q := 3) hx (dc kL_law_0 0 rfl) cf11 (by decide) nw_L_7 rfl (fun v2 hvv2 h1 => ?_)
  refine j_dup (q := 4) hx (dc kL_law_0 1 rfl) (vR_cat _ _) rfl ?_
  refine w_cIVW (q := 7) (As := []) (st := [vR x.2.2.2 v2]) hx (dc kL_law_0 2 rfl) (cI _ my_X11_init lm_L_9 (by decide)) is_X11_init rfl rfl (fun u hu => sX11_init hvv2 _ _ _ _ hu) hvv2 (sum_le (sum_R sum_nil) (by decide)) rfl (fun h4 => ?_)
  refine j_astore_n (q := 8) (i := 1) (l2 := [(0, vR x.2.2.2 x0)]) hx (dc kL_law_0 3 rfl) rfl (hn 1 (by decide)) [0] rfl ⟨⟨show (0 : Nat) ≠ 1 by decide, Or.inr (vR_cat _ _)⟩, trivial⟩ rfl ?_
  refine j_new (q := 11) hx (dc kL_law_0 4 rfl) cf12 (by decide) nw_L_10 rfl (fun v6 hvv6 h5 => ?_)
  refine j_dup (q := 12) hx (dc kL_law_0 5 rfl) (vR_cat _ _) rfl ?_
  refine w_cIVW (q := 15) (As := []) (st := [vR x.2.2.2 v6]) hx (dc kL_law_0 6 rfl) (cI _ my_X12_init lm_L_12 (by decide)) is_X12_init rfl rfl (fun u hu => sX12_init hvv6 _ _ _ _ hu) hvv6 (sum_le (sum_R sum_nil) (by decide)) rfl (fun h8 => ?_)
  refine j_astore_n (q := 16) (i := 2) (l2 := [(1, vR x.2.2.2 v2), (0, vR x.2.2.2 x0)]) hx (dc kL_law_0 7 rfl) rfl (hn 2 (by decide)) [0, 1] rfl ⟨⟨show (1 : Nat) ≠ 2 by decide, Or.inr (vR_cat _ _)⟩, ⟨⟨show (0 : Nat) ≠ 2 by decide, Or.inl (show (0 : Nat) + 1 ≠ 2 by decide)⟩, trivial⟩⟩ rfl ?_
  refine j_iconst (q := 17) (v := (0 : Int32)) hx (dc kL_law_0 8 rfl) (by decide) rfl ?_
  refine j_istore_n (q := 18) (i := 3) (l2 := [(2, vR x.2.2.2 v6), (1, vR x.2.2.2 v2), (0, vR x.2.2.2 x0)]) hx (dc kL_law_0 9 rfl) rfl (hn 3 (by decide)) [0, 1, 2] rfl ⟨⟨show (2 : Nat) ≠ 3 by decide, Or.inr (vR_cat _ _)⟩, ⟨⟨show (1 : Nat) ≠ 3 by decide, Or.inl (show (1 : Nat) + 1 ≠ 3 by decide)⟩, ⟨⟨show (0 : Nat) ≠ 3 by decide, Or.inl (show (0 : Nat) + 1 ≠ 3 by decide)⟩, trivial⟩⟩⟩ rfl ?_
  exact j_sub [3, 2, 1, 0] rfl (hb18 x0 v2 v6 (0 : Int32) h8)
