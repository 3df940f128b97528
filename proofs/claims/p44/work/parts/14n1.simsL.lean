set_option maxHeartbeats 4000000 in
set_option maxRecDepth 100000 in
theorem sL_judged (l : Launch) (w : Wd) (x0 : Nat) (x1 : Int32) (h : Hp) (u : (Int32 × Hp)) (hK : mL_judged x0 x1 h = some u) : M1 l w mi_L_judged 10 [vR w x0, .int x1] h u.2 (some (.int u.1)) := by
  refine M1.of (own := RL) (T := fun _ r => r = u) hK (by decide +kernel) rfl (by first | (simp only [lg_lenR, lg_lenI, lg_lenL, lg_len0]; decide) | decide) (fun x hx hnl hhf hl hw hret hnm hQ h0e => ⟨?_, rfl⟩)
  subst hw
  subst hl
  have hR : Rt x h u.2 (some (.int u.1)) ((some .boolean)) := ⟨h0e, hhf, hret, hQ⟩
  have hn : ∀ i, i < 13 → i < x.2.2.1.1.1 := fun i hi => by rw [hnl]; exact hi
  have e0 : lv_args 0 [vR x.2.2.2 x0, .int x1] = [(0, vR x.2.2.2 x0), (1, .int x1)] := by simp only [lv_argsR, lv_argsI, lv_argsL, lv_args0]
  rw [e0]
  have hb407 : ∀ (x0 : Nat) (x1 : Int32) (x9 : Int32) (h : Hp), J x 407 [(0, vR x.2.2.2 x0), (1, .int x1), (9, .int x9)] [] h (mL_judged_l407 x0 x1 x9 h) (fun r => r = u) := by
    intro x0 x1 x9 h
    have hB : ∀ (x9 : Int32) (h : Hp), J x 407 [(0, vR x.2.2.2 x0), (1, .int x1), (9, .int x9)] [] h (mL_judged_l407f x0 x1 x9 h) (TLo (S := (Int32 × Hp)) x 407 (fun s => [(0, vR x.2.2.2 x0), (1, .int x1), (9, .int s.1)]) [] (fun s => s.2) (fun r => r = u)) := by
      intro x9 h
      have hb544 : ∀ (x0 : Nat) (x1 : Int32) (x9 : Int32) (h : Hp), J x 544 [(0, vR x.2.2.2 x0), (1, .int x1), (9, .int x9)] [] h (mL_judged_b544 x0 x1 x9 h) (TLo (S := (Int32 × Hp)) x 407 (fun s => [(0, vR x.2.2.2 x0), (1, .int x1), (9, .int s.1)]) [] (fun s => s.2) (fun r => r = u)) := by
        intro x0 x1 x9 h
        unfold mL_judged_b544
        refine j_iinc (q := 547) (l2 := [(0, vR x.2.2.2 x0), (1, .int x1)]) hx (dc kL_judged_4 31 rfl) 2 rfl (v := (1 : Int32)) (by decide) (hn 9 (by decide)) [0, 1] rfl ⟨⟨show (0 : Nat) ≠ 9 by decide, Or.inl (show (0 : Nat) + 1 ≠ 9 by decide)⟩, ⟨⟨show (1 : Nat) ≠ 9 by decide, Or.inl (show (1 : Nat) + 1 ≠ 9 by decide)⟩, trivial⟩⟩ rfl ?_
        refine j_goto (q := 407) hx (dc kL_judged_4 32 rfl) (by decide) ?_
        exact j_back [1, 2, 0] ((x9 + (1 : Int32)), h) rfl rfl
      have hb496 : ∀ (x0 : Nat) (x1 : Int32) (x9 : Int32) (x10 : Int32) (x11 : Int32) (x12 : Int32) (t0 : Int32) (t1 : Int32) (h : Hp), J x 496 [(0, vR x.2.2.2 x0), (1, .int x1), (9, .int x9), (10, .int x10), (11, .int x11), (12, .int x12)] [.int t1, .int t0] h (mL_judged_b496 x0 x1 x9 x10 x11 x12 t0 t1 h) (TLo (S := (Int32 × Hp)) x 407 (fun s => [(0, vR x.2.2.2 x0), (1, .int x1), (9, .int s.1)]) [] (fun s => s.2) (fun r => r = u)) := by
        intro x0 x1 x9 x10 x11 x12 t0 t1 h
        unfold mL_judged_b496
        refine j_icmp_eq (q := 499) (tgt := 501) hx (dc kL_judged_4 6 rfl) (by decide) Iff.rfl rfl ?_ ?_
        · refine j_iload (q := 503) hx (dc kL_judged_4 9 rfl) 3 rfl rfl ?_
          refine j_if_lt (q := 506) (tgt := 544) hx (dc kL_judged_4 10 rfl) (by decide) Iff.rfl rfl ?_ ?_
          · exact j_sub [0, 1, 2] rfl (hb544 x0 x1 x9 h)
          · refine j_aload_n (q := 507) hx (dc kL_judged_4 11 rfl) rfl 0 rfl rfl ?_
            refine j_iload (q := 509) hx (dc kL_judged_4 12 rfl) 3 rfl rfl ?_
            refine j_iload (q := 511) hx (dc kL_judged_4 13 rfl) 4 rfl rfl ?_
            refine w_cVIW (q := 514) (As := [.int x10, .int x11]) (st := []) hx (dc kL_judged_4 14 rfl) cf15 (by decide) rfl (cI _ my_L_makes lm_L_332 (by decide)) vs_L_makes rfl (fun u hu => sL_makes _ _ _ _ _ _ _ hu) (fun e => ite_ne (by unfold mL_makes at e; exact e)) (Nat.zero_le _) rfl (fun v42 h43 => ?_)
            refine j_if_eq (q := 517) (tgt := 542) hx (dc kL_judged_4 15 rfl) (by decide) Iff.rfl rfl ?_ ?_
            · refine j_exit ?_
              refine j_iconst (q := 543) (v := (0 : Int32)) hx (dc kL_judged_4 29 rfl) (by decide) rfl ?_
              exact r_cW hx (Or.inl rfl) hR (dc kL_judged_4 30 rfl)
            · refine j_aload_n (q := 518) hx (dc kL_judged_4 16 rfl) rfl 0 rfl rfl ?_
              refine w_gR (q := 521) hx (dc kL_judged_4 17 rfl) ff_L_0 lk_L_10 rfl (fun v44 => ?_)
              refine j_iload_n (q := 522) hx (dc kL_judged_4 18 rfl) rfl 1 rfl rfl ?_
              refine j_iconst (q := 523) (v := (1 : Int32)) hx (dc kL_judged_4 19 rfl) (by decide) rfl ?_
              refine j_iload (q := 525) hx (dc kL_judged_4 20 rfl) 2 rfl rfl ?_
              refine j_isub (q := 526) hx (dc kL_judged_4 21 rfl) rfl ?_
              refine w_cVIW (q := 529) (As := [.int x1, .int ((1 : Int32) - x9)]) (st := []) hx (dc kL_judged_4 22 rfl) cf11 (by decide) rfl (cI _ my_X11_duel lm_L_329 (by decide)) vs_X11_duel rfl (fun u hu => sX11_duel _ _ _ _ _ _ _ hu) (fun e => ite_ne (by unfold mX11_duel at e; exact e)) (Nat.zero_le _) rfl (fun v45 h46 => ?_)
              refine j_iload (q := 531) hx (dc kL_judged_4 23 rfl) 5 rfl rfl ?_
              refine j_icmp_neS (q := 534) (tgt := 542) hx (dc kL_judged_4 24 rfl) (by decide) rfl ?_ ?_
              · refine j_exit ?_
                refine j_iconst (q := 543) (v := (0 : Int32)) hx (dc kL_judged_4 29 rfl) (by decide) rfl ?_
                exact r_cW hx (Or.inl rfl) hR (dc kL_judged_4 30 rfl)
              · refine j_aload_n (q := 535) hx (dc kL_judged_4 25 rfl) rfl 0 rfl rfl ?_
                refine j_iconst (q := 536) (v := (1 : Int32)) hx (dc kL_judged_4 26 rfl) (by decide) rfl ?_
                refine w_cVIW (q := 539) (As := [.int (1 : Int32)]) (st := []) hx (dc kL_judged_4 27 rfl) cf15 (by decide) rfl (cI _ my_L_taken lm_L_313 (by decide)) vs_L_taken rfl (fun u hu => sL_taken _ _ _ _ _ _ hu) (fun e => ite_ne (by unfold mL_taken at e; exact e)) (Nat.zero_le _) rfl (fun v47 h48 => ?_)
                refine j_if_neS (q := 542) (tgt := 544) hx (dc kL_judged_4 28 rfl) (by decide) rfl ?_ ?_
                · exact j_sub [0, 1, 2] rfl (hb544 x0 x1 x9 h48)
                · refine j_exit ?_
                  refine j_iconst (q := 543) (v := (0 : Int32)) hx (dc kL_judged_4 29 rfl) (by decide) rfl ?_
                  exact r_cW hx (Or.inl rfl) hR (dc kL_judged_4 30 rfl)
        · refine j_exit ?_
          refine j_iconst (q := 500) (v := (0 : Int32)) hx (dc kL_judged_4 7 rfl) (by decide) rfl ?_
          exact r_cW hx (Or.inl rfl) hR (dc kL_judged_4 8 rfl)
      have hb486 : ∀ (x0 : Nat) (x1 : Int32) (x9 : Int32) (x10 : Int32) (x11 : Int32) (x12 : Int32) (t0 : Int32) (h : Hp), J x 486 [(0, vR x.2.2.2 x0), (1, .int x1), (9, .int x9), (10, .int x10), (11, .int x11), (12, .int x12)] [.int t0] h (mL_judged_b486 x0 x1 x9 x10 x11 x12 t0 h) (TLo (S := (Int32 × Hp)) x 407 (fun s => [(0, vR x.2.2.2 x0), (1, .int x1), (9, .int s.1)]) [] (fun s => s.2) (fun r => r = u)) := by
        intro x0 x1 x9 x10 x11 x12 t0 h
        unfold mL_judged_b486
        refine j_iload (q := 488) hx (dc kL_judged_4 1 rfl) 4 rfl rfl ?_
        refine j_if_geS (q := 491) (tgt := 495) hx (dc kL_judged_4 2 rfl) (by decide) rfl ?_ ?_
        · refine j_iconst (q := 496) (v := (0 : Int32)) hx (dc kL_judged_4 5 rfl) (by decide) rfl ?_
          exact hb496 x0 x1 x9 x10 x11 x12 t0 (0 : Int32) h
        · refine j_iconst (q := 492) (v := (1 : Int32)) hx (dc kL_judged_4 3 rfl) (by decide) rfl ?_
          refine j_goto (q := 496) hx (dc kL_judged_4 4 rfl) (by decide) ?_
          exact hb496 x0 x1 x9 x10 x11 x12 t0 (1 : Int32) h
      have hb473 : ∀ (x0 : Nat) (x1 : Int32) (x9 : Int32) (x10 : Int32) (x11 : Int32) (x12 : Int32) (t0 : Int32) (t1 : Int32) (h : Hp), J x 473 [(0, vR x.2.2.2 x0), (1, .int x1), (9, .int x9), (10, .int x10), (11, .int x11), (12, .int x12)] [.int t1, .int t0] h (mL_judged_b473 x0 x1 x9 x10 x11 x12 t0 t1 h) (TLo (S := (Int32 × Hp)) x 407 (fun s => [(0, vR x.2.2.2 x0), (1, .int x1), (9, .int s.1)]) [] (fun s => s.2) (fun r => r = u)) := by
        intro x0 x1 x9 x10 x11 x12 t0 t1 h
        unfold mL_judged_b473
        refine j_icmp_neS (q := 476) (tgt := 499) hx (dc kL_judged_3 59 rfl) (by decide) rfl ?_ ?_
        · refine j_exit ?_
          refine j_iconst (q := 500) (v := (0 : Int32)) hx (dc kL_judged_4 7 rfl) (by decide) rfl ?_
          exact r_cW hx (Or.inl rfl) hR (dc kL_judged_4 8 rfl)
        · refine j_iload (q := 478) hx (dc kL_judged_3 60 rfl) 3 rfl rfl ?_
          refine j_if_geS (q := 481) (tgt := 485) hx (dc kL_judged_3 61 rfl) (by decide) rfl ?_ ?_
          · refine j_iconst (q := 486) (v := (0 : Int32)) hx (dc kL_judged_4 0 rfl) (by decide) rfl ?_
            exact hb486 x0 x1 x9 x10 x11 x12 (0 : Int32) h
          · refine j_iconst (q := 482) (v := (1 : Int32)) hx (dc kL_judged_3 62 rfl) (by decide) rfl ?_
            refine j_goto (q := 486) hx (dc kL_judged_3 63 rfl) (by decide) ?_
            exact hb486 x0 x1 x9 x10 x11 x12 (1 : Int32) h
      have hb461 : ∀ (x0 : Nat) (x1 : Int32) (x9 : Int32) (x10 : Int32) (x11 : Int32) (x12 : Int32) (t0 : Int32) (h : Hp), J x 461 [(0, vR x.2.2.2 x0), (1, .int x1), (9, .int x9), (10, .int x10), (11, .int x11), (12, .int x12)] [.int t0] h (mL_judged_b461 x0 x1 x9 x10 x11 x12 t0 h) (TLo (S := (Int32 × Hp)) x 407 (fun s => [(0, vR x.2.2.2 x0), (1, .int x1), (9, .int s.1)]) [] (fun s => s.2) (fun r => r = u)) := by
        intro x0 x1 x9 x10 x11 x12 t0 h
        unfold mL_judged_b461
        refine j_iload (q := 463) hx (dc kL_judged_3 53 rfl) 5 rfl rfl ?_
        refine j_iload (q := 465) hx (dc kL_judged_3 54 rfl) 2 rfl rfl ?_
        refine j_icmp_neS (q := 468) (tgt := 472) hx (dc kL_judged_3 55 rfl) (by decide) rfl ?_ ?_
        · refine j_iconst (q := 473) (v := (0 : Int32)) hx (dc kL_judged_3 58 rfl) (by decide) rfl ?_
          exact hb473 x0 x1 x9 x10 x11 x12 t0 (0 : Int32) h
        · refine j_iconst (q := 469) (v := (1 : Int32)) hx (dc kL_judged_3 56 rfl) (by decide) rfl ?_
          refine j_goto (q := 473) hx (dc kL_judged_3 57 rfl) (by decide) ?_
          exact hb473 x0 x1 x9 x10 x11 x12 t0 (1 : Int32) h
      unfold mL_judged_l407f
      refine j_iload (q := 409) hx (dc kL_judged_3 25 rfl) 2 rfl rfl ?_
      refine j_iconst (q := 410) (v := (2 : Int32)) hx (dc kL_judged_3 26 rfl) (by decide) rfl ?_
      refine j_icmp_geS (q := 413) (tgt := 550) hx (dc kL_judged_3 27 rfl) (by decide) rfl ?_ ?_
      · refine j_exit ?_
        refine j_aload_n (q := 551) hx (dc kL_judged_4 33 rfl) rfl 0 rfl rfl ?_
        refine j_iload_n (q := 552) hx (dc kL_judged_4 34 rfl) rfl 1 rfl rfl ?_
        refine j_iconst (q := 553) (v := (1 : Int32)) hx (dc kL_judged_4 35 rfl) (by decide) rfl ?_
        refine w_cVIW (q := 556) (As := [.int x1, .int (1 : Int32)]) (st := []) hx (dc kL_judged_4 36 rfl) cf15 (by decide) rfl (cI _ my_L_proved lm_L_339 (by decide)) vs_L_proved rfl (fun u hu => sL_proved _ _ _ _ _ _ _ hu) (fun e => ite_ne (by unfold mL_proved at e; exact e)) (Nat.zero_le _) rfl (fun v29 h30 => ?_)
        refine j_if_eq (q := 559) (tgt := 572) hx (dc kL_judged_4 37 rfl) (by decide) Iff.rfl rfl ?_ ?_
        · refine j_iconst (q := 573) (v := (0 : Int32)) hx (dc kL_judged_4 45 rfl) (by decide) rfl ?_
          exact r_cW hx (Or.inl rfl) hR (dc kL_judged_4 46 rfl)
        · refine j_aload_n (q := 560) hx (dc kL_judged_4 38 rfl) rfl 0 rfl rfl ?_
          refine j_iload_n (q := 561) hx (dc kL_judged_4 39 rfl) rfl 1 rfl rfl ?_
          refine j_iconst (q := 562) (v := (0 : Int32)) hx (dc kL_judged_4 40 rfl) (by decide) rfl ?_
          refine w_cVIW (q := 565) (As := [.int x1, .int (0 : Int32)]) (st := []) hx (dc kL_judged_4 41 rfl) cf15 (by decide) rfl (cI _ my_L_proved lm_L_339 (by decide)) vs_L_proved rfl (fun u hu => sL_proved _ _ _ _ _ _ _ hu) (fun e => ite_ne (by unfold mL_proved at e; exact e)) (Nat.zero_le _) rfl (fun v31 h32 => ?_)
          refine j_if_eq (q := 568) (tgt := 572) hx (dc kL_judged_4 42 rfl) (by decide) Iff.rfl rfl ?_ ?_
          · refine j_iconst (q := 573) (v := (0 : Int32)) hx (dc kL_judged_4 45 rfl) (by decide) rfl ?_
            exact r_cW hx (Or.inl rfl) hR (dc kL_judged_4 46 rfl)
          · refine j_iconst (q := 569) (v := (1 : Int32)) hx (dc kL_judged_4 43 rfl) (by decide) rfl ?_
            refine j_goto (q := 573) hx (dc kL_judged_4 44 rfl) (by decide) ?_
            exact r_cW hx (Or.inr rfl) hR (dc kL_judged_4 46 rfl)
      · refine j_aload_n (q := 414) hx (dc kL_judged_3 28 rfl) rfl 0 rfl rfl ?_
        refine w_gR (q := 417) hx (dc kL_judged_3 29 rfl) ff_L_0 lk_L_10 rfl (fun v33 => ?_)
        refine j_iload_n (q := 418) hx (dc kL_judged_3 30 rfl) rfl 1 rfl rfl ?_
        refine j_iload (q := 420) hx (dc kL_judged_3 31 rfl) 2 rfl rfl ?_
        refine j_iconst (q := 421) (v := (0 : Int32)) hx (dc kL_judged_3 32 rfl) (by decide) rfl ?_
        refine w_cVIW (q := 424) (As := [.int x1, .int x9, .int (0 : Int32)]) (st := []) hx (dc kL_judged_3 33 rfl) cf11 (by decide) rfl (cI _ my_X11_turn lm_L_336 (by decide)) vs_X11_turn rfl (fun u hu => sX11_turn _ _ _ _ _ _ _ _ hu) (fun e => ite_ne (by unfold mX11_turn at e; exact e)) (Nat.zero_le _) rfl (fun v34 h35 => ?_)
        refine j_istore (q := 426) (i := 10) (l2 := [(0, vR x.2.2.2 x0), (1, .int x1), (9, .int x9)]) hx (dc kL_judged_3 34 rfl) (hn 10 (by decide)) [0, 1, 2] rfl ⟨⟨show (0 : Nat) ≠ 10 by decide, Or.inl (show (0 : Nat) + 1 ≠ 10 by decide)⟩, ⟨⟨show (1 : Nat) ≠ 10 by decide, Or.inl (show (1 : Nat) + 1 ≠ 10 by decide)⟩, ⟨⟨show (9 : Nat) ≠ 10 by decide, Or.inr rfl⟩, trivial⟩⟩⟩ rfl ?_
        refine j_aload_n (q := 427) hx (dc kL_judged_3 35 rfl) rfl 1 rfl rfl ?_
        refine w_gR (q := 430) hx (dc kL_judged_3 36 rfl) ff_L_0 lk_L_10 rfl (fun v36 => ?_)
        refine j_iload_n (q := 431) hx (dc kL_judged_3 37 rfl) rfl 2 rfl rfl ?_
        refine j_iload (q := 433) hx (dc kL_judged_3 38 rfl) 3 rfl rfl ?_
        refine j_iconst (q := 434) (v := (1 : Int32)) hx (dc kL_judged_3 39 rfl) (by decide) rfl ?_
        refine w_cVIW (q := 437) (As := [.int x1, .int x9, .int (1 : Int32)]) (st := []) hx (dc kL_judged_3 40 rfl) cf11 (by decide) rfl (cI _ my_X11_turn lm_L_336 (by decide)) vs_X11_turn rfl (fun u hu => sX11_turn _ _ _ _ _ _ _ _ hu) (fun e => ite_ne (by unfold mX11_turn at e; exact e)) (Nat.zero_le _) rfl (fun v37 h38 => ?_)
        refine j_istore (q := 439) (i := 11) (l2 := [(10, .int v34), (0, vR x.2.2.2 x0), (1, .int x1), (9, .int x9)]) hx (dc kL_judged_3 41 rfl) (hn 11 (by decide)) [0, 1, 2, 3] rfl ⟨⟨show (10 : Nat) ≠ 11 by decide, Or.inr rfl⟩, ⟨⟨show (0 : Nat) ≠ 11 by decide, Or.inl (show (0 : Nat) + 1 ≠ 11 by decide)⟩, ⟨⟨show (1 : Nat) ≠ 11 by decide, Or.inl (show (1 : Nat) + 1 ≠ 11 by decide)⟩, ⟨⟨show (9 : Nat) ≠ 11 by decide, Or.inl (show (9 : Nat) + 1 ≠ 11 by decide)⟩, trivial⟩⟩⟩⟩ rfl ?_
        refine j_aload_n (q := 440) hx (dc kL_judged_3 42 rfl) rfl 2 rfl rfl ?_
        refine w_gR (q := 443) hx (dc kL_judged_3 43 rfl) ff_L_0 lk_L_10 rfl (fun v39 => ?_)
        refine j_iload_n (q := 444) hx (dc kL_judged_3 44 rfl) rfl 3 rfl rfl ?_
        refine j_iload (q := 446) hx (dc kL_judged_3 45 rfl) 4 rfl rfl ?_
        refine w_cVIW (q := 449) (As := [.int x1, .int x9]) (st := []) hx (dc kL_judged_3 46 rfl) cf11 (by decide) rfl (cI _ my_X11_duel lm_L_329 (by decide)) vs_X11_duel rfl (fun u hu => sX11_duel _ _ _ _ _ _ _ hu) (fun e => ite_ne (by unfold mX11_duel at e; exact e)) (Nat.zero_le _) rfl (fun v40 h41 => ?_)
        refine j_istore (q := 451) (i := 12) (l2 := [(11, .int v37), (10, .int v34), (0, vR x.2.2.2 x0), (1, .int x1), (9, .int x9)]) hx (dc kL_judged_3 47 rfl) (hn 12 (by decide)) [0, 1, 2, 3, 4] rfl ⟨⟨show (11 : Nat) ≠ 12 by decide, Or.inr rfl⟩, ⟨⟨show (10 : Nat) ≠ 12 by decide, Or.inl (show (10 : Nat) + 1 ≠ 12 by decide)⟩, ⟨⟨show (0 : Nat) ≠ 12 by decide, Or.inl (show (0 : Nat) + 1 ≠ 12 by decide)⟩, ⟨⟨show (1 : Nat) ≠ 12 by decide, Or.inl (show (1 : Nat) + 1 ≠ 12 by decide)⟩, ⟨⟨show (9 : Nat) ≠ 12 by decide, Or.inl (show (9 : Nat) + 1 ≠ 12 by decide)⟩, trivial⟩⟩⟩⟩⟩ rfl ?_
        refine j_iload (q := 453) hx (dc kL_judged_3 48 rfl) 2 rfl rfl ?_
        refine j_if_geS (q := 456) (tgt := 460) hx (dc kL_judged_3 49 rfl) (by decide) rfl ?_ ?_
        · refine j_iconst (q := 461) (v := (0 : Int32)) hx (dc kL_judged_3 52 rfl) (by decide) rfl ?_
          exact j_sub [3, 4, 5, 2, 1, 0] rfl (hb461 x0 x1 x9 v34 v37 v40 (0 : Int32) h41)
        · refine j_iconst (q := 457) (v := (1 : Int32)) hx (dc kL_judged_3 50 rfl) (by decide) rfl ?_
          refine j_goto (q := 461) hx (dc kL_judged_3 51 rfl) (by decide) ?_
          exact j_sub [3, 4, 5, 2, 1, 0] rfl (hb461 x0 x1 x9 v34 v37 v40 (1 : Int32) h41)
    exact j_loop (S := (Int32 × Hp)) (lvf := fun s => [(0, vR x.2.2.2 x0), (1, .int x1), (9, .int s.1)]) (hpf := fun s => s.2) (f := (fun s : (Int32 × Hp) => mL_judged_l407f x0 x1 s.1 s.2)) (fun s => hB s.1 s.2) (x9, h)
  have hb329 : ∀ (x0 : Nat) (x1 : Int32) (x3 : Int32) (x4 : Int32) (x8 : Int32) (x9 : Int32) (h : Hp), J x 329 [(0, vR x.2.2.2 x0), (1, .int x1), (3, .int x3), (4, .int x4), (8, .int x8), (9, .int x9)] [] h (mL_judged_l329 x0 x1 x3 x4 x8 x9 h) (fun r => r = u) := by
    intro x0 x1 x3 x4 x8 x9 h
    have hB : ∀ (x8 : Int32) (x9 : Int32) (h : Hp), J x 329 [(0, vR x.2.2.2 x0), (1, .int x1), (3, .int x3), (4, .int x4), (8, .int x8), (9, .int x9)] [] h (mL_judged_l329f x0 x1 x3 x4 x8 x9 h) (TLo (S := (Int32 × Int32 × Hp)) x 329 (fun s => [(0, vR x.2.2.2 x0), (1, .int x1), (3, .int x3), (4, .int x4), (8, .int s.1), (9, .int s.2.1)]) [] (fun s => s.2.2) (fun r => r = u)) := by
      intro x8 x9 h
      have hb374 : ∀ (x0 : Nat) (x1 : Int32) (x3 : Int32) (x4 : Int32) (x8 : Int32) (x9 : Int32) (h : Hp), J x 374 [(0, vR x.2.2.2 x0), (1, .int x1), (3, .int x3), (4, .int x4), (8, .int x8), (9, .int x9)] [] h (mL_judged_b374 x0 x1 x3 x4 x8 x9 h) (TLo (S := (Int32 × Int32 × Hp)) x 329 (fun s => [(0, vR x.2.2.2 x0), (1, .int x1), (3, .int x3), (4, .int x4), (8, .int s.1), (9, .int s.2.1)]) [] (fun s => s.2.2) (fun r => r = u)) := by
        intro x0 x1 x3 x4 x8 x9 h
        unfold mL_judged_b374
        refine j_iinc (q := 377) (l2 := [(0, vR x.2.2.2 x0), (1, .int x1), (3, .int x3), (4, .int x4), (8, .int x8)]) hx (dc kL_judged_3 7 rfl) 5 rfl (v := (1 : Int32)) (by decide) (hn 9 (by decide)) [0, 1, 2, 3, 4] rfl ⟨⟨show (0 : Nat) ≠ 9 by decide, Or.inl (show (0 : Nat) + 1 ≠ 9 by decide)⟩, ⟨⟨show (1 : Nat) ≠ 9 by decide, Or.inl (show (1 : Nat) + 1 ≠ 9 by decide)⟩, ⟨⟨show (3 : Nat) ≠ 9 by decide, Or.inl (show (3 : Nat) + 1 ≠ 9 by decide)⟩, ⟨⟨show (4 : Nat) ≠ 9 by decide, Or.inl (show (4 : Nat) + 1 ≠ 9 by decide)⟩, ⟨⟨show (8 : Nat) ≠ 9 by decide, Or.inr rfl⟩, trivial⟩⟩⟩⟩⟩ rfl ?_
        refine j_goto (q := 329) hx (dc kL_judged_3 8 rfl) (by decide) ?_
        exact j_back [1, 2, 3, 4, 5, 0] (x8, (x9 + (1 : Int32)), h) rfl rfl
      unfold mL_judged_l329f
      refine j_iload (q := 331) hx (dc kL_judged_2 48 rfl) 5 rfl rfl ?_
      refine j_iconst (q := 332) (v := (2 : Int32)) hx (dc kL_judged_2 49 rfl) (by decide) rfl ?_
      refine j_icmp_geS (q := 335) (tgt := 380) hx (dc kL_judged_2 50 rfl) (by decide) rfl ?_ ?_
      · refine j_exit ?_
        refine j_iload (q := 382) hx (dc kL_judged_3 9 rfl) 4 rfl rfl ?_
        refine j_iload (q := 384) hx (dc kL_judged_3 10 rfl) 3 rfl rfl ?_
        refine j_iconst (q := 385) (v := (1 : Int32)) hx (dc kL_judged_3 11 rfl) (by decide) rfl ?_
        refine j_isub (q := 386) hx (dc kL_judged_3 12 rfl) rfl ?_
        refine j_icmp_neS (q := 389) (tgt := 402) hx (dc kL_judged_3 13 rfl) (by decide) rfl ?_ ?_
        · refine j_iconst (q := 403) (v := (0 : Int32)) hx (dc kL_judged_3 21 rfl) (by decide) rfl ?_
          exact r_cW hx (Or.inl rfl) hR (dc kL_judged_3 22 rfl)
        · refine j_aload_n (q := 390) hx (dc kL_judged_3 14 rfl) rfl 0 rfl rfl ?_
          refine w_gR (q := 393) hx (dc kL_judged_3 15 rfl) ff_L_0 lk_L_10 rfl (fun v26 => ?_)
          refine j_iload_n (q := 394) hx (dc kL_judged_3 16 rfl) rfl 2 rfl rfl ?_
          refine j_iconst (q := 395) (v := (2 : Int32)) hx (dc kL_judged_3 17 rfl) (by decide) rfl ?_
          refine w_cVIR (q := 398) (As := [.int x3, .int (2 : Int32)]) (st := []) hx (dc kL_judged_3 18 rfl) cf11 (by decide) rfl (cI _ my_X11_fact lm_L_272 (by decide)) vs_X11_fact rfl (fun u hu => sX11_fact _ _ _ _ _ _ _ hu) (fun e => ite_ne (by unfold mX11_fact at e; exact e)) (Nat.zero_le _) rfl (fun v27 => ?_)
          refine j_iconst (q := 399) (v := (2 : Int32)) hx (dc kL_judged_3 19 rfl) (by decide) rfl ?_
          refine j_icmp_eq (q := 402) (tgt := 404) hx (dc kL_judged_3 20 rfl) (by decide) Iff.rfl rfl ?_ ?_
          · refine j_iconst (q := 405) (v := (0 : Int32)) hx (dc kL_judged_3 23 rfl) (by decide) rfl ?_
            refine j_istore (q := 407) (i := 9) (l2 := [(0, vR x.2.2.2 x0), (1, .int x1)]) hx (dc kL_judged_3 24 rfl) (hn 9 (by decide)) [0, 1] rfl ⟨⟨show (0 : Nat) ≠ 9 by decide, Or.inl (show (0 : Nat) + 1 ≠ 9 by decide)⟩, ⟨⟨show (1 : Nat) ≠ 9 by decide, Or.inl (show (1 : Nat) + 1 ≠ 9 by decide)⟩, trivial⟩⟩ rfl ?_
            exact j_sub [1, 2, 0] rfl (hb407 x0 x1 (0 : Int32) h)
          · refine j_iconst (q := 403) (v := (0 : Int32)) hx (dc kL_judged_3 21 rfl) (by decide) rfl ?_
            exact r_cW hx (Or.inl rfl) hR (dc kL_judged_3 22 rfl)
      · refine j_aload_n (q := 336) hx (dc kL_judged_2 51 rfl) rfl 0 rfl rfl ?_
        refine j_iload_n (q := 337) hx (dc kL_judged_2 52 rfl) rfl 2 rfl rfl ?_
        refine j_iload (q := 339) hx (dc kL_judged_2 53 rfl) 5 rfl rfl ?_
        refine w_cVIW (q := 342) (As := [.int x3, .int x9]) (st := []) hx (dc kL_judged_2 54 rfl) cf15 (by decide) rfl (cI _ my_L_makes lm_L_332 (by decide)) vs_L_makes rfl (fun u hu => sL_makes _ _ _ _ _ _ _ hu) (fun e => ite_ne (by unfold mL_makes at e; exact e)) (Nat.zero_le _) rfl (fun v49 h50 => ?_)
        refine j_if_neS (q := 345) (tgt := 348) hx (dc kL_judged_2 55 rfl) (by decide) rfl ?_ ?_
        · refine j_iload (q := 350) hx (dc kL_judged_2 57 rfl) 4 rfl rfl ?_
          refine j_aload_n (q := 351) hx (dc kL_judged_2 58 rfl) rfl 0 rfl rfl ?_
          refine w_gR (q := 354) hx (dc kL_judged_2 59 rfl) ff_L_0 lk_L_10 rfl (fun v51 => ?_)
          refine j_iload_n (q := 355) hx (dc kL_judged_2 60 rfl) rfl 1 rfl rfl ?_
          refine j_iconst (q := 356) (v := (0 : Int32)) hx (dc kL_judged_2 61 rfl) (by decide) rfl ?_
          refine w_cVIW (q := 359) (As := [.int x1, .int (0 : Int32)]) (st := [.int x8]) hx (dc kL_judged_2 62 rfl) cf11 (by decide) rfl (cI _ my_X11_tries lm_L_316 (by decide)) vs_X11_tries rfl (fun u hu => sX11_tries _ _ _ _ _ _ _ hu) (fun e => ite_ne (by unfold mX11_tries at e; exact e)) (sum_le (sum_I sum_nil) (by decide)) rfl (fun v52 h53 => ?_)
          refine w_mmax (q := 362) hx (dc kL_judged_2 63 rfl) lm_L_44 ms_mmax ms_init mc_mmax (by decide) (Nat.zero_le _) rfl ?_
          refine j_istore (q := 364) (i := 8) (l2 := [(0, vR x.2.2.2 x0), (1, .int x1), (3, .int x3), (4, .int x4), (9, .int x9)]) hx (dc kL_judged_3 0 rfl) (hn 8 (by decide)) [0, 1, 2, 3, 5] rfl ⟨⟨show (0 : Nat) ≠ 8 by decide, Or.inl (show (0 : Nat) + 1 ≠ 8 by decide)⟩, ⟨⟨show (1 : Nat) ≠ 8 by decide, Or.inl (show (1 : Nat) + 1 ≠ 8 by decide)⟩, ⟨⟨show (3 : Nat) ≠ 8 by decide, Or.inl (show (3 : Nat) + 1 ≠ 8 by decide)⟩, ⟨⟨show (4 : Nat) ≠ 8 by decide, Or.inl (show (4 : Nat) + 1 ≠ 8 by decide)⟩, ⟨⟨show (9 : Nat) ≠ 8 by decide, Or.inl (show (9 : Nat) + 1 ≠ 8 by decide)⟩, trivial⟩⟩⟩⟩⟩ rfl ?_
          refine j_aload_n (q := 365) hx (dc kL_judged_3 1 rfl) rfl 1 rfl rfl ?_
          refine j_iconst (q := 366) (v := (1 : Int32)) hx (dc kL_judged_3 2 rfl) (by decide) rfl ?_
          refine w_cVIW (q := 369) (As := [.int (1 : Int32)]) (st := []) hx (dc kL_judged_3 3 rfl) cf15 (by decide) rfl (cI _ my_L_taken lm_L_313 (by decide)) vs_L_taken rfl (fun u hu => sL_taken _ _ _ _ _ _ hu) (fun e => ite_ne (by unfold mL_taken at e; exact e)) (Nat.zero_le _) rfl (fun v54 h55 => ?_)
          refine j_if_neS (q := 372) (tgt := 374) hx (dc kL_judged_3 4 rfl) (by decide) rfl ?_ ?_
          · exact j_sub [1, 2, 3, 4, 0, 5] rfl (hb374 x0 x1 x3 x4 (mmax x8 v52) x9 h55)
          · refine j_exit ?_
            refine j_iconst (q := 373) (v := (0 : Int32)) hx (dc kL_judged_3 5 rfl) (by decide) rfl ?_
            exact r_cW hx (Or.inl rfl) hR (dc kL_judged_3 6 rfl)
        · refine j_goto (q := 374) hx (dc kL_judged_2 56 rfl) (by decide) ?_
          exact hb374 x0 x1 x3 x4 x8 x9 h50
    exact j_loop (S := (Int32 × Int32 × Hp)) (lvf := fun s => [(0, vR x.2.2.2 x0), (1, .int x1), (3, .int x3), (4, .int x4), (8, .int s.1), (9, .int s.2.1)]) (hpf := fun s => s.2.2) (f := (fun s : (Int32 × Int32 × Hp) => mL_judged_l329f x0 x1 x3 x4 s.1 s.2.1 s.2.2)) (fun s => hB s.1 s.2.1 s.2.2) (x8, x9, h)
  have hb274 : ∀ (x0 : Nat) (x1 : Int32) (x2 : Int32) (t0 : Nat) (t1 : Int32) (t2 : Int32) (h : Hp), J x 274 [(0, vR x.2.2.2 x0), (1, .int x1), (2, .int x2)] [.int t2, .int t1, vR x.2.2.2 t0] h (mL_judged_b274 x0 x1 x2 t0 t1 t2 h) (fun r => r = u) := by
    intro x0 x1 x2 t0 t1 t2 h
    unfold mL_judged_b274
    refine w_cVIW (q := 277) (As := [.int t1, .int t2]) (st := []) hx (dc kL_judged_2 19 rfl) cf11 (by decide) rfl (cI _ my_X11_proofs lm_L_322 (by decide)) vs_X11_proofs rfl (fun u hu => sX11_proofs _ _ _ _ _ _ _ hu) (fun e => ite_ne (by unfold mX11_proofs at e; exact e)) (Nat.zero_le _) rfl (fun v63 h64 => ?_)
    refine j_if_neS (q := 280) (tgt := 321) hx (dc kL_judged_2 20 rfl) (by decide) rfl ?_ ?_
    · refine j_iconst (q := 322) (v := (0 : Int32)) hx (dc kL_judged_2 42 rfl) (by decide) rfl ?_
      exact r_cW hx (Or.inl rfl) hR (dc kL_judged_2 43 rfl)
    · refine j_aload_n (q := 281) hx (dc kL_judged_2 21 rfl) rfl 0 rfl rfl ?_
      refine w_gR (q := 284) hx (dc kL_judged_2 22 rfl) ff_L_0 lk_L_10 rfl (fun v65 => ?_)
      refine j_iload_n (q := 285) hx (dc kL_judged_2 23 rfl) rfl 1 rfl rfl ?_
      refine j_iconst (q := 286) (v := (0 : Int32)) hx (dc kL_judged_2 24 rfl) (by decide) rfl ?_
      refine w_cVIW (q := 289) (As := [.int x1, .int (0 : Int32)]) (st := []) hx (dc kL_judged_2 25 rfl) cf11 (by decide) rfl (cI _ my_X11_duel lm_L_329 (by decide)) vs_X11_duel rfl (fun u hu => sX11_duel _ _ _ _ _ _ _ hu) (fun e => ite_ne (by unfold mX11_duel at e; exact e)) (Nat.zero_le _) rfl (fun v66 h67 => ?_)
      refine j_iload_n (q := 290) hx (dc kL_judged_2 26 rfl) rfl 2 rfl rfl ?_
      refine j_icmp_neS (q := 293) (tgt := 321) hx (dc kL_judged_2 27 rfl) (by decide) rfl ?_ ?_
      · refine j_iconst (q := 322) (v := (0 : Int32)) hx (dc kL_judged_2 42 rfl) (by decide) rfl ?_
        exact r_cW hx (Or.inl rfl) hR (dc kL_judged_2 43 rfl)
      · refine j_aload_n (q := 294) hx (dc kL_judged_2 28 rfl) rfl 0 rfl rfl ?_
        refine w_gR (q := 297) hx (dc kL_judged_2 29 rfl) ff_L_0 lk_L_10 rfl (fun v68 => ?_)
        refine j_iload_n (q := 298) hx (dc kL_judged_2 30 rfl) rfl 1 rfl rfl ?_
        refine j_iconst (q := 299) (v := (1 : Int32)) hx (dc kL_judged_2 31 rfl) (by decide) rfl ?_
        refine w_cVIW (q := 302) (As := [.int x1, .int (1 : Int32)]) (st := []) hx (dc kL_judged_2 32 rfl) cf11 (by decide) rfl (cI _ my_X11_duel lm_L_329 (by decide)) vs_X11_duel rfl (fun u hu => sX11_duel _ _ _ _ _ _ _ hu) (fun e => ite_ne (by unfold mX11_duel at e; exact e)) (Nat.zero_le _) rfl (fun v69 h70 => ?_)
        refine j_iload_n (q := 303) hx (dc kL_judged_2 33 rfl) rfl 2 rfl rfl ?_
        refine j_icmp_neS (q := 306) (tgt := 321) hx (dc kL_judged_2 34 rfl) (by decide) rfl ?_ ?_
        · refine j_iconst (q := 322) (v := (0 : Int32)) hx (dc kL_judged_2 42 rfl) (by decide) rfl ?_
          exact r_cW hx (Or.inl rfl) hR (dc kL_judged_2 43 rfl)
        · refine j_aload_n (q := 307) hx (dc kL_judged_2 35 rfl) rfl 0 rfl rfl ?_
          refine w_gR (q := 310) hx (dc kL_judged_2 36 rfl) ff_L_0 lk_L_10 rfl (fun v71 => ?_)
          refine j_iload_n (q := 311) hx (dc kL_judged_2 37 rfl) rfl 1 rfl rfl ?_
          refine w_cVIW (q := 314) (As := [.int x1]) (st := []) hx (dc kL_judged_2 38 rfl) cf11 (by decide) rfl (cI _ my_X11_issues lm_L_319 (by decide)) vs_X11_issues rfl (fun u hu => sX11_issues _ _ _ _ _ _ hu) (fun e => ite_ne (by unfold mX11_issues at e; exact e)) (Nat.zero_le _) rfl (fun v72 h73 => ?_)
          refine j_if_neS (q := 317) (tgt := 321) hx (dc kL_judged_2 39 rfl) (by decide) rfl ?_ ?_
          · refine j_iconst (q := 322) (v := (0 : Int32)) hx (dc kL_judged_2 42 rfl) (by decide) rfl ?_
            exact r_cW hx (Or.inl rfl) hR (dc kL_judged_2 43 rfl)
          · refine j_iconst (q := 318) (v := (1 : Int32)) hx (dc kL_judged_2 40 rfl) (by decide) rfl ?_
            refine j_goto (q := 322) hx (dc kL_judged_2 41 rfl) (by decide) ?_
            exact r_cW hx (Or.inr rfl) hR (dc kL_judged_2 43 rfl)
  have hb252 : ∀ (x0 : Nat) (x1 : Int32) (x2 : Int32) (t0 : Nat) (t1 : Int32) (t2 : Int32) (h : Hp), J x 252 [(0, vR x.2.2.2 x0), (1, .int x1), (2, .int x2)] [.int t2, .int t1, vR x.2.2.2 t0] h (mL_judged_b252 x0 x1 x2 t0 t1 t2 h) (fun r => r = u) := by
    intro x0 x1 x2 t0 t1 t2 h
    unfold mL_judged_b252
    refine j_iconst (q := 253) (v := (0 : Int32)) hx (dc kL_judged_2 7 rfl) (by decide) rfl ?_
    refine j_iconst (q := 254) (v := (0 : Int32)) hx (dc kL_judged_2 8 rfl) (by decide) rfl ?_
    refine w_cVIW (q := 257) (As := [.int t1, .int t2, .int (0 : Int32), .int (0 : Int32)]) (st := []) hx (dc kL_judged_2 9 rfl) cf11 (by decide) rfl (cI _ my_X11_proof lm_L_325 (by decide)) vs_X11_proof rfl (fun u hu => sX11_proof _ _ _ _ _ _ _ _ _ hu) (fun e => ite_ne (by unfold mX11_proof at e; exact e)) (Nat.zero_le _) rfl (fun v60 h61 => ?_)
    refine j_if_neS (q := 260) (tgt := 321) hx (dc kL_judged_2 10 rfl) (by decide) rfl ?_ ?_
    · refine j_iconst (q := 322) (v := (0 : Int32)) hx (dc kL_judged_2 42 rfl) (by decide) rfl ?_
      exact r_cW hx (Or.inl rfl) hR (dc kL_judged_2 43 rfl)
    · refine j_aload_n (q := 261) hx (dc kL_judged_2 11 rfl) rfl 0 rfl rfl ?_
      refine w_gR (q := 264) hx (dc kL_judged_2 12 rfl) ff_L_0 lk_L_10 rfl (fun v62 => ?_)
      refine j_iload_n (q := 265) hx (dc kL_judged_2 13 rfl) rfl 1 rfl rfl ?_
      refine j_iload_n (q := 266) hx (dc kL_judged_2 14 rfl) rfl 2 rfl rfl ?_
      refine j_if_neS (q := 269) (tgt := 273) hx (dc kL_judged_2 15 rfl) (by decide) rfl ?_ ?_
      · refine j_iconst (q := 274) (v := (0 : Int32)) hx (dc kL_judged_2 18 rfl) (by decide) rfl ?_
        exact hb274 x0 x1 x2 v62 x1 (0 : Int32) h61
      · refine j_iconst (q := 270) (v := (1 : Int32)) hx (dc kL_judged_2 16 rfl) (by decide) rfl ?_
        refine j_goto (q := 274) hx (dc kL_judged_2 17 rfl) (by decide) ?_
        exact hb274 x0 x1 x2 v62 x1 (1 : Int32) h61
  have hb230 : ∀ (x0 : Nat) (x1 : Int32) (x2 : Int32) (t0 : Nat) (t1 : Int32) (t2 : Int32) (h : Hp), J x 230 [(0, vR x.2.2.2 x0), (1, .int x1), (2, .int x2)] [.int t2, .int t1, vR x.2.2.2 t0] h (mL_judged_b230 x0 x1 x2 t0 t1 t2 h) (fun r => r = u) := by
    intro x0 x1 x2 t0 t1 t2 h
    unfold mL_judged_b230
    refine w_cVIW (q := 233) (As := [.int t1, .int t2]) (st := []) hx (dc kL_judged_1 59 rfl) cf11 (by decide) rfl (cI _ my_X11_proofs lm_L_322 (by decide)) vs_X11_proofs rfl (fun u hu => sX11_proofs _ _ _ _ _ _ _ hu) (fun e => ite_ne (by unfold mX11_proofs at e; exact e)) (Nat.zero_le _) rfl (fun v57 h58 => ?_)
    refine j_iconst (q := 234) (v := (1 : Int32)) hx (dc kL_judged_1 60 rfl) (by decide) rfl ?_
    refine j_icmp_neS (q := 237) (tgt := 321) hx (dc kL_judged_1 61 rfl) (by decide) rfl ?_ ?_
    · refine j_iconst (q := 322) (v := (0 : Int32)) hx (dc kL_judged_2 42 rfl) (by decide) rfl ?_
      exact r_cW hx (Or.inl rfl) hR (dc kL_judged_2 43 rfl)
    · refine j_aload_n (q := 238) hx (dc kL_judged_1 62 rfl) rfl 0 rfl rfl ?_
      refine w_gR (q := 241) hx (dc kL_judged_1 63 rfl) ff_L_0 lk_L_10 rfl (fun v59 => ?_)
      refine j_iload_n (q := 242) hx (dc kL_judged_2 0 rfl) rfl 1 rfl rfl ?_
      refine j_iload_n (q := 243) hx (dc kL_judged_2 1 rfl) rfl 2 rfl rfl ?_
      refine j_iconst (q := 244) (v := (1 : Int32)) hx (dc kL_judged_2 2 rfl) (by decide) rfl ?_
      refine j_icmp_neS (q := 247) (tgt := 251) hx (dc kL_judged_2 3 rfl) (by decide) rfl ?_ ?_
      · refine j_iconst (q := 252) (v := (0 : Int32)) hx (dc kL_judged_2 6 rfl) (by decide) rfl ?_
        exact hb252 x0 x1 x2 v59 x1 (0 : Int32) h58
      · refine j_iconst (q := 248) (v := (1 : Int32)) hx (dc kL_judged_2 4 rfl) (by decide) rfl ?_
        refine j_goto (q := 252) hx (dc kL_judged_2 5 rfl) (by decide) ?_
        exact hb252 x0 x1 x2 v59 x1 (1 : Int32) h58
  have hb205 : ∀ (x0 : Nat) (x1 : Int32) (x2 : Int32) (x3 : Int32) (x4 : Int32) (t0 : Int32) (t1 : Int32) (h : Hp), J x 205 [(0, vR x.2.2.2 x0), (1, .int x1), (2, .int x2), (3, .int x3), (4, .int x4)] [.int t1, .int t0] h (mL_judged_b205 x0 x1 x2 x3 x4 t0 t1 h) (fun r => r = u) := by
    intro x0 x1 x2 x3 x4 t0 t1 h
    unfold mL_judged_b205
    refine j_icmp_eq (q := 208) (tgt := 210) hx (dc kL_judged_1 44 rfl) (by decide) Iff.rfl rfl ?_ ?_
    · refine j_iload_n (q := 211) hx (dc kL_judged_1 47 rfl) rfl 2 rfl rfl ?_
      refine j_iconst (q := 212) (v := (2 : Int32)) hx (dc kL_judged_1 48 rfl) (by decide) rfl ?_
      refine j_icmp_eq (q := 215) (tgt := 323) hx (dc kL_judged_1 49 rfl) (by decide) Iff.rfl rfl ?_ ?_
      · refine j_iconst (q := 324) (v := (0 : Int32)) hx (dc kL_judged_2 44 rfl) (by decide) rfl ?_
        refine j_istore (q := 326) (i := 8) (l2 := [(0, vR x.2.2.2 x0), (1, .int x1), (3, .int x3), (4, .int x4)]) hx (dc kL_judged_2 45 rfl) (hn 8 (by decide)) [0, 1, 3, 4] rfl ⟨⟨show (0 : Nat) ≠ 8 by decide, Or.inl (show (0 : Nat) + 1 ≠ 8 by decide)⟩, ⟨⟨show (1 : Nat) ≠ 8 by decide, Or.inl (show (1 : Nat) + 1 ≠ 8 by decide)⟩, ⟨⟨show (3 : Nat) ≠ 8 by decide, Or.inl (show (3 : Nat) + 1 ≠ 8 by decide)⟩, ⟨⟨show (4 : Nat) ≠ 8 by decide, Or.inl (show (4 : Nat) + 1 ≠ 8 by decide)⟩, trivial⟩⟩⟩⟩ rfl ?_
        refine j_iconst (q := 327) (v := (0 : Int32)) hx (dc kL_judged_2 46 rfl) (by decide) rfl ?_
        refine j_istore (q := 329) (i := 9) (l2 := [(8, .int (0 : Int32)), (0, vR x.2.2.2 x0), (1, .int x1), (3, .int x3), (4, .int x4)]) hx (dc kL_judged_2 47 rfl) (hn 9 (by decide)) [0, 1, 2, 3, 4] rfl ⟨⟨show (8 : Nat) ≠ 9 by decide, Or.inr rfl⟩, ⟨⟨show (0 : Nat) ≠ 9 by decide, Or.inl (show (0 : Nat) + 1 ≠ 9 by decide)⟩, ⟨⟨show (1 : Nat) ≠ 9 by decide, Or.inl (show (1 : Nat) + 1 ≠ 9 by decide)⟩, ⟨⟨show (3 : Nat) ≠ 9 by decide, Or.inl (show (3 : Nat) + 1 ≠ 9 by decide)⟩, ⟨⟨show (4 : Nat) ≠ 9 by decide, Or.inl (show (4 : Nat) + 1 ≠ 9 by decide)⟩, trivial⟩⟩⟩⟩⟩ rfl ?_
        exact j_sub [2, 3, 4, 5, 1, 0] rfl (hb329 x0 x1 x3 x4 (0 : Int32) (0 : Int32) h)
      · refine j_aload_n (q := 216) hx (dc kL_judged_1 50 rfl) rfl 0 rfl rfl ?_
        refine w_gR (q := 219) hx (dc kL_judged_1 51 rfl) ff_L_0 lk_L_10 rfl (fun v56 => ?_)
        refine j_iload_n (q := 220) hx (dc kL_judged_1 52 rfl) rfl 1 rfl rfl ?_
        refine j_iload_n (q := 221) hx (dc kL_judged_1 53 rfl) rfl 2 rfl rfl ?_
        refine j_iconst (q := 222) (v := (1 : Int32)) hx (dc kL_judged_1 54 rfl) (by decide) rfl ?_
        refine j_icmp_neS (q := 225) (tgt := 229) hx (dc kL_judged_1 55 rfl) (by decide) rfl ?_ ?_
        · refine j_iconst (q := 230) (v := (0 : Int32)) hx (dc kL_judged_1 58 rfl) (by decide) rfl ?_
          exact j_sub [0, 1, 2] rfl (hb230 x0 x1 x2 v56 x1 (0 : Int32) h)
        · refine j_iconst (q := 226) (v := (1 : Int32)) hx (dc kL_judged_1 56 rfl) (by decide) rfl ?_
          refine j_goto (q := 230) hx (dc kL_judged_1 57 rfl) (by decide) ?_
          exact j_sub [0, 1, 2] rfl (hb230 x0 x1 x2 v56 x1 (1 : Int32) h)
    · refine j_iconst (q := 209) (v := (0 : Int32)) hx (dc kL_judged_1 45 rfl) (by decide) rfl ?_
      exact r_cW hx (Or.inl rfl) hR (dc kL_judged_1 46 rfl)
  have hb200 : ∀ (x0 : Nat) (x1 : Int32) (x2 : Int32) (x3 : Int32) (x4 : Int32) (t0 : Int32) (h : Hp), J x 200 [(0, vR x.2.2.2 x0), (1, .int x1), (2, .int x2), (3, .int x3), (4, .int x4)] [.int t0] h (mL_judged_b200 x0 x1 x2 x3 x4 t0 h) (fun r => r = u) := by
    intro x0 x1 x2 x3 x4 t0 h
    unfold mL_judged_b200
    refine j_iconst (q := 201) (v := (1 : Int32)) hx (dc kL_judged_1 41 rfl) (by decide) rfl ?_
    refine j_goto (q := 205) hx (dc kL_judged_1 42 rfl) (by decide) ?_
    exact hb205 x0 x1 x2 x3 x4 t0 (1 : Int32) h
  have hb184 : ∀ (x0 : Nat) (x1 : Int32) (x2 : Int32) (x3 : Int32) (x4 : Int32) (t0 : Int32) (h : Hp), J x 184 [(0, vR x.2.2.2 x0), (1, .int x1), (2, .int x2), (3, .int x3), (4, .int x4)] [.int t0] h (mL_judged_b184 x0 x1 x2 x3 x4 t0 h) (fun r => r = u) := by
    intro x0 x1 x2 x3 x4 t0 h
    unfold mL_judged_b184
    refine j_aload_n (q := 185) hx (dc kL_judged_1 34 rfl) rfl 0 rfl rfl ?_
    refine w_gR (q := 188) hx (dc kL_judged_1 35 rfl) ff_L_0 lk_L_10 rfl (fun v23 => ?_)
    refine j_iload_n (q := 189) hx (dc kL_judged_1 36 rfl) rfl 1 rfl rfl ?_
    refine w_cVIW (q := 192) (As := [.int x1]) (st := [.int t0]) hx (dc kL_judged_1 37 rfl) cf11 (by decide) rfl (cI _ my_X11_issues lm_L_319 (by decide)) vs_X11_issues rfl (fun u hu => sX11_issues _ _ _ _ _ _ hu) (fun e => ite_ne (by unfold mX11_issues at e; exact e)) (sum_le (sum_I sum_nil) (by decide)) rfl (fun v24 h25 => ?_)
    refine j_if_neS (q := 195) (tgt := 200) hx (dc kL_judged_1 38 rfl) (by decide) rfl ?_ ?_
    · exact hb200 x0 x1 x2 x3 x4 t0 h25
    · refine j_iload (q := 197) hx (dc kL_judged_1 39 rfl) 4 rfl rfl ?_
      refine j_if_leS (q := 200) (tgt := 204) hx (dc kL_judged_1 40 rfl) (by decide) rfl ?_ ?_
      · refine j_iconst (q := 205) (v := (0 : Int32)) hx (dc kL_judged_1 43 rfl) (by decide) rfl ?_
        exact hb205 x0 x1 x2 x3 x4 t0 (0 : Int32) h25
      · exact hb200 x0 x1 x2 x3 x4 t0 h25
  have hb171 : ∀ (x0 : Nat) (x1 : Int32) (x2 : Int32) (x3 : Int32) (x4 : Int32) (t0 : Int32) (t1 : Int32) (h : Hp), J x 171 [(0, vR x.2.2.2 x0), (1, .int x1), (2, .int x2), (3, .int x3), (4, .int x4)] [.int t1, .int t0] h (mL_judged_b171 x0 x1 x2 x3 x4 t0 t1 h) (fun r => r = u) := by
    intro x0 x1 x2 x3 x4 t0 t1 h
    unfold mL_judged_b171
    refine j_icmp_neS (q := 174) (tgt := 208) hx (dc kL_judged_1 27 rfl) (by decide) rfl ?_ ?_
    · refine j_iconst (q := 209) (v := (0 : Int32)) hx (dc kL_judged_1 45 rfl) (by decide) rfl ?_
      exact r_cW hx (Or.inl rfl) hR (dc kL_judged_1 46 rfl)
    · refine j_iload_n (q := 175) hx (dc kL_judged_1 28 rfl) rfl 2 rfl rfl ?_
      refine j_iconst (q := 176) (v := (2 : Int32)) hx (dc kL_judged_1 29 rfl) (by decide) rfl ?_
      refine j_icmp_neS (q := 179) (tgt := 183) hx (dc kL_judged_1 30 rfl) (by decide) rfl ?_ ?_
      · refine j_iconst (q := 184) (v := (0 : Int32)) hx (dc kL_judged_1 33 rfl) (by decide) rfl ?_
        exact hb184 x0 x1 x2 x3 x4 (0 : Int32) h
      · refine j_iconst (q := 180) (v := (1 : Int32)) hx (dc kL_judged_1 31 rfl) (by decide) rfl ?_
        refine j_goto (q := 184) hx (dc kL_judged_1 32 rfl) (by decide) ?_
        exact hb184 x0 x1 x2 x3 x4 (1 : Int32) h
  have hb162 : ∀ (x0 : Nat) (x1 : Int32) (x2 : Int32) (x3 : Int32) (x4 : Int32) (t0 : Int32) (h : Hp), J x 162 [(0, vR x.2.2.2 x0), (1, .int x1), (2, .int x2), (3, .int x3), (4, .int x4)] [.int t0] h (mL_judged_b162 x0 x1 x2 x3 x4 t0 h) (fun r => r = u) := by
    intro x0 x1 x2 x3 x4 t0 h
    unfold mL_judged_b162
    refine j_iload_n (q := 163) hx (dc kL_judged_1 22 rfl) rfl 3 rfl rfl ?_
    refine j_if_lt (q := 166) (tgt := 170) hx (dc kL_judged_1 23 rfl) (by decide) Iff.rfl rfl ?_ ?_
    · refine j_iconst (q := 171) (v := (0 : Int32)) hx (dc kL_judged_1 26 rfl) (by decide) rfl ?_
      exact hb171 x0 x1 x2 x3 x4 t0 (0 : Int32) h
    · refine j_iconst (q := 167) (v := (1 : Int32)) hx (dc kL_judged_1 24 rfl) (by decide) rfl ?_
      refine j_goto (q := 171) hx (dc kL_judged_1 25 rfl) (by decide) ?_
      exact hb171 x0 x1 x2 x3 x4 t0 (1 : Int32) h
  have hb142 : ∀ (x0 : Nat) (x1 : Int32) (x2 : Int32) (x3 : Int32) (x4 : Int32) (x5 : Int32) (t0 : Int32) (t1 : Int32) (h : Hp), J x 142 [(0, vR x.2.2.2 x0), (1, .int x1), (2, .int x2), (3, .int x3), (4, .int x4), (5, .int x5)] [.int t1, .int t0] h (mL_judged_b142 x0 x1 x2 x3 x4 x5 t0 t1 h) (fun r => r = u) := by
    intro x0 x1 x2 x3 x4 x5 t0 t1 h
    unfold mL_judged_b142
    refine j_icmp_eq (q := 145) (tgt := 208) hx (dc kL_judged_1 12 rfl) (by decide) Iff.rfl rfl ?_ ?_
    · refine j_iconst (q := 209) (v := (0 : Int32)) hx (dc kL_judged_1 45 rfl) (by decide) rfl ?_
      exact r_cW hx (Or.inl rfl) hR (dc kL_judged_1 46 rfl)
    · refine j_iload (q := 147) hx (dc kL_judged_1 13 rfl) 4 rfl rfl ?_
      refine j_iload (q := 149) hx (dc kL_judged_1 14 rfl) 5 rfl rfl ?_
      refine j_icmp_gt (q := 152) (tgt := 208) hx (dc kL_judged_1 15 rfl) (by decide) Iff.rfl rfl ?_ ?_
      · refine j_iconst (q := 209) (v := (0 : Int32)) hx (dc kL_judged_1 45 rfl) (by decide) rfl ?_
        exact r_cW hx (Or.inl rfl) hR (dc kL_judged_1 46 rfl)
      · refine j_iload_n (q := 153) hx (dc kL_judged_1 16 rfl) rfl 2 rfl rfl ?_
        refine j_iconst (q := 154) (v := (2 : Int32)) hx (dc kL_judged_1 17 rfl) (by decide) rfl ?_
        refine j_icmp_neS (q := 157) (tgt := 161) hx (dc kL_judged_1 18 rfl) (by decide) rfl ?_ ?_
        · refine j_iconst (q := 162) (v := (0 : Int32)) hx (dc kL_judged_1 21 rfl) (by decide) rfl ?_
          exact j_sub [0, 1, 2, 3, 4] rfl (hb162 x0 x1 x2 x3 x4 (0 : Int32) h)
        · refine j_iconst (q := 158) (v := (1 : Int32)) hx (dc kL_judged_1 19 rfl) (by decide) rfl ?_
          refine j_goto (q := 162) hx (dc kL_judged_1 20 rfl) (by decide) ?_
          exact j_sub [0, 1, 2, 3, 4] rfl (hb162 x0 x1 x2 x3 x4 (1 : Int32) h)
  have hb132 : ∀ (x0 : Nat) (x1 : Int32) (x2 : Int32) (x3 : Int32) (x4 : Int32) (x5 : Int32) (t0 : Int32) (h : Hp), J x 132 [(0, vR x.2.2.2 x0), (1, .int x1), (2, .int x2), (3, .int x3), (4, .int x4), (5, .int x5)] [.int t0] h (mL_judged_b132 x0 x1 x2 x3 x4 x5 t0 h) (fun r => r = u) := by
    intro x0 x1 x2 x3 x4 x5 t0 h
    unfold mL_judged_b132
    refine j_iload (q := 134) hx (dc kL_judged_1 7 rfl) 4 rfl rfl ?_
    refine j_if_neS (q := 137) (tgt := 141) hx (dc kL_judged_1 8 rfl) (by decide) rfl ?_ ?_
    · refine j_iconst (q := 142) (v := (0 : Int32)) hx (dc kL_judged_1 11 rfl) (by decide) rfl ?_
      exact hb142 x0 x1 x2 x3 x4 x5 t0 (0 : Int32) h
    · refine j_iconst (q := 138) (v := (1 : Int32)) hx (dc kL_judged_1 9 rfl) (by decide) rfl ?_
      refine j_goto (q := 142) hx (dc kL_judged_1 10 rfl) (by decide) ?_
      exact hb142 x0 x1 x2 x3 x4 x5 t0 (1 : Int32) h
  have hb117 : ∀ (x0 : Nat) (x1 : Int32) (x2 : Int32) (x3 : Int32) (x4 : Int32) (x5 : Int32) (x7 : Int32) (t0 : Int32) (h : Hp), J x 117 [(0, vR x.2.2.2 x0), (1, .int x1), (2, .int x2), (3, .int x3), (4, .int x4), (5, .int x5), (7, .int x7)] [.int t0] h (mL_judged_b117 x0 x1 x2 x3 x4 x5 x7 t0 h) (fun r => r = u) := by
    intro x0 x1 x2 x3 x4 x5 x7 t0 h
    unfold mL_judged_b117
    refine j_iload (q := 119) hx (dc kL_judged_0 63 rfl) 6 rfl rfl ?_
    refine j_icmp_neS (q := 122) (tgt := 208) hx (dc kL_judged_1 0 rfl) (by decide) rfl ?_ ?_
    · refine j_iconst (q := 209) (v := (0 : Int32)) hx (dc kL_judged_1 45 rfl) (by decide) rfl ?_
      exact r_cW hx (Or.inl rfl) hR (dc kL_judged_1 46 rfl)
    · refine j_iload_n (q := 123) hx (dc kL_judged_1 1 rfl) rfl 2 rfl rfl ?_
      refine j_iconst (q := 124) (v := (2 : Int32)) hx (dc kL_judged_1 2 rfl) (by decide) rfl ?_
      refine j_icmp_neS (q := 127) (tgt := 131) hx (dc kL_judged_1 3 rfl) (by decide) rfl ?_ ?_
      · refine j_iconst (q := 132) (v := (0 : Int32)) hx (dc kL_judged_1 6 rfl) (by decide) rfl ?_
        exact j_sub [0, 1, 2, 3, 4, 5] rfl (hb132 x0 x1 x2 x3 x4 x5 (0 : Int32) h)
      · refine j_iconst (q := 128) (v := (1 : Int32)) hx (dc kL_judged_1 4 rfl) (by decide) rfl ?_
        refine j_goto (q := 132) hx (dc kL_judged_1 5 rfl) (by decide) ?_
        exact j_sub [0, 1, 2, 3, 4, 5] rfl (hb132 x0 x1 x2 x3 x4 x5 (1 : Int32) h)
  have hb103 : ∀ (x0 : Nat) (x1 : Int32) (x2 : Int32) (x3 : Int32) (x4 : Int32) (x5 : Int32) (x6 : Int32) (x7 : Int32) (t0 : Int32) (h : Hp), J x 103 [(0, vR x.2.2.2 x0), (1, .int x1), (2, .int x2), (3, .int x3), (4, .int x4), (5, .int x5), (6, .int x6), (7, .int x7)] [.int t0] h (mL_judged_b103 x0 x1 x2 x3 x4 x5 x6 x7 t0 h) (fun r => r = u) := by
    intro x0 x1 x2 x3 x4 x5 x6 x7 t0 h
    unfold mL_judged_b103
    refine j_iload (q := 105) hx (dc kL_judged_0 56 rfl) 6 rfl rfl ?_
    refine j_icmp_neS (q := 108) (tgt := 208) hx (dc kL_judged_0 57 rfl) (by decide) rfl ?_ ?_
    · refine j_iconst (q := 209) (v := (0 : Int32)) hx (dc kL_judged_1 45 rfl) (by decide) rfl ?_
      exact r_cW hx (Or.inl rfl) hR (dc kL_judged_1 46 rfl)
    · refine j_iload_n (q := 109) hx (dc kL_judged_0 58 rfl) rfl 2 rfl rfl ?_
      refine j_if_neS (q := 112) (tgt := 116) hx (dc kL_judged_0 59 rfl) (by decide) rfl ?_ ?_
      · refine j_iconst (q := 117) (v := (0 : Int32)) hx (dc kL_judged_0 62 rfl) (by decide) rfl ?_
        exact j_sub [0, 1, 2, 3, 4, 5, 7] rfl (hb117 x0 x1 x2 x3 x4 x5 x7 (0 : Int32) h)
      · refine j_iconst (q := 113) (v := (1 : Int32)) hx (dc kL_judged_0 60 rfl) (by decide) rfl ?_
        refine j_goto (q := 117) hx (dc kL_judged_0 61 rfl) (by decide) ?_
        exact j_sub [0, 1, 2, 3, 4, 5, 7] rfl (hb117 x0 x1 x2 x3 x4 x5 x7 (1 : Int32) h)
  have hb91 : ∀ (x0 : Nat) (x1 : Int32) (x2 : Int32) (x3 : Int32) (x4 : Int32) (x5 : Int32) (x6 : Int32) (t0 : Int32) (h : Hp), J x 91 [(0, vR x.2.2.2 x0), (1, .int x1), (2, .int x2), (3, .int x3), (4, .int x4), (5, .int x5), (6, .int x6)] [.int t0] h (mL_judged_b91 x0 x1 x2 x3 x4 x5 x6 t0 h) (fun r => r = u) := by
    intro x0 x1 x2 x3 x4 x5 x6 t0 h
    unfold mL_judged_b91
    refine j_istore (q := 93) (i := 7) (l2 := [(0, vR x.2.2.2 x0), (1, .int x1), (2, .int x2), (3, .int x3), (4, .int x4), (5, .int x5), (6, .int x6)]) hx (dc kL_judged_0 49 rfl) (hn 7 (by decide)) [0, 1, 2, 3, 4, 5, 6] rfl ⟨⟨show (0 : Nat) ≠ 7 by decide, Or.inl (show (0 : Nat) + 1 ≠ 7 by decide)⟩, ⟨⟨show (1 : Nat) ≠ 7 by decide, Or.inl (show (1 : Nat) + 1 ≠ 7 by decide)⟩, ⟨⟨show (2 : Nat) ≠ 7 by decide, Or.inl (show (2 : Nat) + 1 ≠ 7 by decide)⟩, ⟨⟨show (3 : Nat) ≠ 7 by decide, Or.inl (show (3 : Nat) + 1 ≠ 7 by decide)⟩, ⟨⟨show (4 : Nat) ≠ 7 by decide, Or.inl (show (4 : Nat) + 1 ≠ 7 by decide)⟩, ⟨⟨show (5 : Nat) ≠ 7 by decide, Or.inl (show (5 : Nat) + 1 ≠ 7 by decide)⟩, ⟨⟨show (6 : Nat) ≠ 7 by decide, Or.inr rfl⟩, trivial⟩⟩⟩⟩⟩⟩⟩ rfl ?_
    refine j_iload_n (q := 94) hx (dc kL_judged_0 50 rfl) rfl 3 rfl rfl ?_
    refine j_iconst (q := 95) (v := (1 : Int32)) hx (dc kL_judged_0 51 rfl) (by decide) rfl ?_
    refine j_icmp_neS (q := 98) (tgt := 102) hx (dc kL_judged_0 52 rfl) (by decide) rfl ?_ ?_
    · refine j_iconst (q := 103) (v := (0 : Int32)) hx (dc kL_judged_0 55 rfl) (by decide) rfl ?_
      exact j_sub [1, 2, 3, 4, 5, 6, 7, 0] rfl (hb103 x0 x1 x2 x3 x4 x5 x6 t0 (0 : Int32) h)
    · refine j_iconst (q := 99) (v := (1 : Int32)) hx (dc kL_judged_0 53 rfl) (by decide) rfl ?_
      refine j_goto (q := 103) hx (dc kL_judged_0 54 rfl) (by decide) ?_
      exact j_sub [1, 2, 3, 4, 5, 6, 7, 0] rfl (hb103 x0 x1 x2 x3 x4 x5 x6 t0 (1 : Int32) h)
  have hb72 : ∀ (x0 : Nat) (x1 : Int32) (x2 : Int32) (x3 : Int32) (x4 : Int32) (x5 : Int32) (t0 : Int32) (h : Hp), J x 72 [(0, vR x.2.2.2 x0), (1, .int x1), (2, .int x2), (3, .int x3), (4, .int x4), (5, .int x5)] [.int t0] h (mL_judged_b72 x0 x1 x2 x3 x4 x5 t0 h) (fun r => r = u) := by
    intro x0 x1 x2 x3 x4 x5 t0 h
    unfold mL_judged_b72
    refine j_istore (q := 74) (i := 6) (l2 := [(0, vR x.2.2.2 x0), (1, .int x1), (2, .int x2), (3, .int x3), (4, .int x4), (5, .int x5)]) hx (dc kL_judged_0 39 rfl) (hn 6 (by decide)) [0, 1, 2, 3, 4, 5] rfl ⟨⟨show (0 : Nat) ≠ 6 by decide, Or.inl (show (0 : Nat) + 1 ≠ 6 by decide)⟩, ⟨⟨show (1 : Nat) ≠ 6 by decide, Or.inl (show (1 : Nat) + 1 ≠ 6 by decide)⟩, ⟨⟨show (2 : Nat) ≠ 6 by decide, Or.inl (show (2 : Nat) + 1 ≠ 6 by decide)⟩, ⟨⟨show (3 : Nat) ≠ 6 by decide, Or.inl (show (3 : Nat) + 1 ≠ 6 by decide)⟩, ⟨⟨show (4 : Nat) ≠ 6 by decide, Or.inl (show (4 : Nat) + 1 ≠ 6 by decide)⟩, ⟨⟨show (5 : Nat) ≠ 6 by decide, Or.inr rfl⟩, trivial⟩⟩⟩⟩⟩⟩ rfl ?_
    refine j_aload_n (q := 75) hx (dc kL_judged_0 40 rfl) rfl 1 rfl rfl ?_
    refine w_gR (q := 78) hx (dc kL_judged_0 41 rfl) ff_L_0 lk_L_10 rfl (fun v20 => ?_)
    refine j_iload_n (q := 79) hx (dc kL_judged_0 42 rfl) rfl 2 rfl rfl ?_
    refine j_iconst (q := 80) (v := (0 : Int32)) hx (dc kL_judged_0 43 rfl) (by decide) rfl ?_
    refine w_cVIW (q := 83) (As := [.int x1, .int (0 : Int32)]) (st := []) hx (dc kL_judged_0 44 rfl) cf11 (by decide) rfl (cI _ my_X11_chance lm_L_263 (by decide)) vs_X11_chance rfl (fun u hu => sX11_chance _ _ _ _ _ _ _ hu) (fun e => ite_ne (by unfold mX11_chance at e; exact e)) (Nat.zero_le _) rfl (fun v21 h22 => ?_)
    refine j_if_neS (q := 86) (tgt := 90) hx (dc kL_judged_0 45 rfl) (by decide) rfl ?_ ?_
    · refine j_iconst (q := 91) (v := (0 : Int32)) hx (dc kL_judged_0 48 rfl) (by decide) rfl ?_
      exact j_sub [1, 2, 3, 4, 5, 6, 0] rfl (hb91 x0 x1 x2 x3 x4 x5 t0 (0 : Int32) h22)
    · refine j_iconst (q := 87) (v := (1 : Int32)) hx (dc kL_judged_0 46 rfl) (by decide) rfl ?_
      refine j_goto (q := 91) hx (dc kL_judged_0 47 rfl) (by decide) ?_
      exact j_sub [1, 2, 3, 4, 5, 6, 0] rfl (hb91 x0 x1 x2 x3 x4 x5 t0 (1 : Int32) h22)
  unfold mL_judged
  refine J.ckd fun hck => ?_
  refine j_aload_n (q := 1) hx (dc kL_judged_0 0 rfl) rfl 0 rfl rfl ?_
  refine w_gR (q := 4) hx (dc kL_judged_0 1 rfl) ff_L_0 lk_L_10 rfl (fun v1 => ?_)
  refine j_iload_n (q := 5) hx (dc kL_judged_0 2 rfl) rfl 1 rfl rfl ?_
  refine w_cVIW (q := 8) (As := [.int x1]) (st := []) hx (dc kL_judged_0 3 rfl) cf11 (by decide) rfl (cI _ my_X11_judged lm_L_260 (by decide)) vs_X11_judged rfl (fun u hu => sX11_judged _ _ _ _ _ _ hu) (fun e => ite_ne (by unfold mX11_judged at e; exact e)) (Nat.zero_le _) rfl (fun v2 h3 => ?_)
  refine j_istore_n (q := 9) (i := 2) (l2 := [(0, vR x.2.2.2 x0), (1, .int x1)]) hx (dc kL_judged_0 4 rfl) rfl (hn 2 (by decide)) [0, 1] rfl ⟨⟨show (0 : Nat) ≠ 2 by decide, Or.inl (show (0 : Nat) + 1 ≠ 2 by decide)⟩, ⟨⟨show (1 : Nat) ≠ 2 by decide, Or.inr rfl⟩, trivial⟩⟩ rfl ?_
  refine j_aload_n (q := 10) hx (dc kL_judged_0 5 rfl) rfl 1 rfl rfl ?_
  refine w_gR (q := 13) hx (dc kL_judged_0 6 rfl) ff_L_0 lk_L_10 rfl (fun v4 => ?_)
  refine j_iload_n (q := 14) hx (dc kL_judged_0 7 rfl) rfl 2 rfl rfl ?_
  refine j_iconst (q := 15) (v := (1 : Int32)) hx (dc kL_judged_0 8 rfl) (by decide) rfl ?_
  refine w_cVIW (q := 18) (As := [.int x1, .int (1 : Int32)]) (st := []) hx (dc kL_judged_0 9 rfl) cf11 (by decide) rfl (cI _ my_X11_tries lm_L_316 (by decide)) vs_X11_tries rfl (fun u hu => sX11_tries _ _ _ _ _ _ _ hu) (fun e => ite_ne (by unfold mX11_tries at e; exact e)) (Nat.zero_le _) rfl (fun v5 h6 => ?_)
  refine j_istore_n (q := 19) (i := 3) (l2 := [(2, .int v2), (0, vR x.2.2.2 x0), (1, .int x1)]) hx (dc kL_judged_0 10 rfl) rfl (hn 3 (by decide)) [0, 1, 2] rfl ⟨⟨show (2 : Nat) ≠ 3 by decide, Or.inr rfl⟩, ⟨⟨show (0 : Nat) ≠ 3 by decide, Or.inl (show (0 : Nat) + 1 ≠ 3 by decide)⟩, ⟨⟨show (1 : Nat) ≠ 3 by decide, Or.inl (show (1 : Nat) + 1 ≠ 3 by decide)⟩, trivial⟩⟩⟩ rfl ?_
  refine j_aload_n (q := 20) hx (dc kL_judged_0 11 rfl) rfl 2 rfl rfl ?_
  refine w_gR (q := 23) hx (dc kL_judged_0 12 rfl) ff_L_0 lk_L_10 rfl (fun v7 => ?_)
  refine j_iload_n (q := 24) hx (dc kL_judged_0 13 rfl) rfl 3 rfl rfl ?_
  refine j_iconst (q := 25) (v := (0 : Int32)) hx (dc kL_judged_0 14 rfl) (by decide) rfl ?_
  refine w_cVIW (q := 28) (As := [.int x1, .int (0 : Int32)]) (st := []) hx (dc kL_judged_0 15 rfl) cf11 (by decide) rfl (cI _ my_X11_tries lm_L_316 (by decide)) vs_X11_tries rfl (fun u hu => sX11_tries _ _ _ _ _ _ _ hu) (fun e => ite_ne (by unfold mX11_tries at e; exact e)) (Nat.zero_le _) rfl (fun v8 h9 => ?_)
  refine j_istore (q := 30) (i := 4) (l2 := [(3, .int v5), (2, .int v2), (0, vR x.2.2.2 x0), (1, .int x1)]) hx (dc kL_judged_0 16 rfl) (hn 4 (by decide)) [0, 1, 2, 3] rfl ⟨⟨show (3 : Nat) ≠ 4 by decide, Or.inr rfl⟩, ⟨⟨show (2 : Nat) ≠ 4 by decide, Or.inl (show (2 : Nat) + 1 ≠ 4 by decide)⟩, ⟨⟨show (0 : Nat) ≠ 4 by decide, Or.inl (show (0 : Nat) + 1 ≠ 4 by decide)⟩, ⟨⟨show (1 : Nat) ≠ 4 by decide, Or.inl (show (1 : Nat) + 1 ≠ 4 by decide)⟩, trivial⟩⟩⟩⟩ rfl ?_
  refine j_aload_n (q := 31) hx (dc kL_judged_0 17 rfl) rfl 3 rfl rfl ?_
  refine w_gI (q := 34) hx (dc kL_judged_0 18 rfl) ff_L_3 lk_L_87 rfl (fun v10 => ?_)
  refine j_aload_n (q := 35) hx (dc kL_judged_0 19 rfl) rfl 3 rfl rfl ?_
  refine w_gR (q := 38) hx (dc kL_judged_0 20 rfl) ff_L_0 lk_L_10 rfl (fun v11 => ?_)
  refine j_bipush (q := 40) (v := (6 : Int32)) hx (dc kL_judged_0 21 rfl) (by decide) rfl ?_
  refine w_cVIW (q := 43) (As := [.int (6 : Int32)]) (st := [.int v10]) hx (dc kL_judged_0 22 rfl) cf11 (by decide) rfl (cI _ my_X11_count lm_L_251 (by decide)) vs_X11_count rfl (fun u hu => sX11_count _ _ _ _ _ _ hu) (fun e => ite_ne (by unfold mX11_count at e; exact e)) (sum_le (sum_I sum_nil) (by decide)) rfl (fun v12 h13 => ?_)
  refine j_isub (q := 44) hx (dc kL_judged_0 23 rfl) rfl ?_
  refine j_istore (q := 46) (i := 5) (l2 := [(4, .int v8), (3, .int v5), (2, .int v2), (0, vR x.2.2.2 x0), (1, .int x1)]) hx (dc kL_judged_0 24 rfl) (hn 5 (by decide)) [0, 1, 2, 3, 4] rfl ⟨⟨show (4 : Nat) ≠ 5 by decide, Or.inr rfl⟩, ⟨⟨show (3 : Nat) ≠ 5 by decide, Or.inl (show (3 : Nat) + 1 ≠ 5 by decide)⟩, ⟨⟨show (2 : Nat) ≠ 5 by decide, Or.inl (show (2 : Nat) + 1 ≠ 5 by decide)⟩, ⟨⟨show (0 : Nat) ≠ 5 by decide, Or.inl (show (0 : Nat) + 1 ≠ 5 by decide)⟩, ⟨⟨show (1 : Nat) ≠ 5 by decide, Or.inl (show (1 : Nat) + 1 ≠ 5 by decide)⟩, trivial⟩⟩⟩⟩⟩ rfl ?_
  refine j_aload_n (q := 47) hx (dc kL_judged_0 25 rfl) rfl 4 rfl rfl ?_
  refine w_gR (q := 50) hx (dc kL_judged_0 26 rfl) ff_L_0 lk_L_10 rfl (fun v14 => ?_)
  refine j_iload_n (q := 51) hx (dc kL_judged_0 27 rfl) rfl 5 rfl rfl ?_
  refine j_iconst (q := 52) (v := (0 : Int32)) hx (dc kL_judged_0 28 rfl) (by decide) rfl ?_
  refine w_cVIW (q := 55) (As := [.int x1, .int (0 : Int32)]) (st := []) hx (dc kL_judged_0 29 rfl) cf11 (by decide) rfl (cI _ my_X11_chance lm_L_263 (by decide)) vs_X11_chance rfl (fun u hu => sX11_chance _ _ _ _ _ _ _ hu) (fun e => ite_ne (by unfold mX11_chance at e; exact e)) (Nat.zero_le _) rfl (fun v15 h16 => ?_)
  refine j_aload_n (q := 56) hx (dc kL_judged_0 30 rfl) rfl 4 rfl rfl ?_
  refine w_gR (q := 59) hx (dc kL_judged_0 31 rfl) ff_L_0 lk_L_10 rfl (fun v17 => ?_)
  refine j_iload_n (q := 60) hx (dc kL_judged_0 32 rfl) rfl 5 rfl rfl ?_
  refine j_iconst (q := 61) (v := (1 : Int32)) hx (dc kL_judged_0 33 rfl) (by decide) rfl ?_
  refine w_cVIW (q := 64) (As := [.int x1, .int (1 : Int32)]) (st := [.int v15]) hx (dc kL_judged_0 34 rfl) cf11 (by decide) rfl (cI _ my_X11_chance lm_L_263 (by decide)) vs_X11_chance rfl (fun u hu => sX11_chance _ _ _ _ _ _ _ hu) (fun e => ite_ne (by unfold mX11_chance at e; exact e)) (sum_le (sum_I sum_nil) (by decide)) rfl (fun v18 h19 => ?_)
  refine j_icmp_neS (q := 67) (tgt := 71) hx (dc kL_judged_0 35 rfl) (by decide) rfl ?_ ?_
  · refine j_iconst (q := 72) (v := (0 : Int32)) hx (dc kL_judged_0 38 rfl) (by decide) rfl ?_
    exact j_sub [4, 5, 3, 2, 1, 0] rfl (hb72 x0 x1 v2 v5 v8 (v10 - v12) (0 : Int32) h19)
  · refine j_iconst (q := 68) (v := (1 : Int32)) hx (dc kL_judged_0 36 rfl) (by decide) rfl ?_
    refine j_goto (q := 72) hx (dc kL_judged_0 37 rfl) (by decide) ?_
    exact j_sub [4, 5, 3, 2, 1, 0] rfl (hb72 x0 x1 v2 v5 v8 (v10 - v12) (1 : Int32) h19)

set_option maxHeartbeats 4000000 in
set_option maxRecDepth 100000 in
theorem sL_weighed (l : Launch) (w : Wd) (x0 : Nat) (x1 : Int32) (x2 : Int32) (h : Hp) (u : (Int32 × Hp)) (hK : mL_weighed x0 x1 x2 h = some u) : M1 l w mi_L_weighed 46 [vR w x0, .int x1, .int x2] h u.2 (some (.int u.1)) := by
  refine M1.of (own := RL) (T := fun _ r => r = u) hK (by decide +kernel) rfl (by first | (simp only [lg_lenR, lg_lenI, lg_lenL, lg_len0]; decide) | decide) (fun x hx hnl hhf hl hw hret hnm hQ h0e => ⟨?_, rfl⟩)
  subst hw
  subst hl
  have hR : Rt x h u.2 (some (.int u.1)) ((some .boolean)) := ⟨h0e, hhf, hret, hQ⟩
  have hn : ∀ i, i < 17 → i < x.2.2.1.1.1 := fun i hi => by rw [hnl]; exact hi
  have e0 : lv_args 0 [vR x.2.2.2 x0, .int x1, .int x2] = [(0, vR x.2.2.2 x0), (1, .int x1), (2, .int x2)] := by simp only [lv_argsR, lv_argsI, lv_argsL, lv_args0]
  rw [e0]
  have hb261 : ∀ (x3 : UInt64) (x5 : UInt64) (x7 : Int32) (t0 : Int32) (t1 : Int32) (h : Hp), J x 261 [(3, .double x3), (5, .double x5), (7, .int x7)] [.int t1, .int t0] h (mL_weighed_b261 x3 x5 x7 t0 t1 h) (fun r => r = u) := by
    intro x3 x5 x7 t0 t1 h
    unfold mL_weighed_b261
    refine j_icmp_neS (q := 264) (tgt := 287) hx (dc kL_weighed_2 13 rfl) (by decide) rfl ?_ ?_
    · refine j_iconst (q := 288) (v := (0 : Int32)) hx (dc kL_weighed_2 25 rfl) (by decide) rfl ?_
      exact r_cW hx (Or.inl rfl) hR (dc kL_weighed_2 26 rfl)
    · refine j_iload (q := 266) hx (dc kL_weighed_2 14 rfl) 2 rfl rfl ?_
      refine j_if_neS (q := 269) (tgt := 287) hx (dc kL_weighed_2 15 rfl) (by decide) rfl ?_ ?_
      · refine j_iconst (q := 288) (v := (0 : Int32)) hx (dc kL_weighed_2 25 rfl) (by decide) rfl ?_
        exact r_cW hx (Or.inl rfl) hR (dc kL_weighed_2 26 rfl)
      · refine j_dload (q := 271) hx (dc kL_weighed_2 16 rfl) 1 rfl rfl ?_
        refine j_dload_n (q := 272) hx (dc kL_weighed_2 17 rfl) rfl 0 rfl rfl ?_
        refine j_dsub (q := 273) hx (dc kL_weighed_2 18 rfl) rfl (fun v34 => ?_)
        refine w_dabs (q := 276) hx (dc kL_weighed_2 19 rfl) lm_L_354 ms_dabs ms_init mc_dabs (by decide) (Nat.zero_le _) rfl (fun v35 => ?_)
        refine j_ldc2D (q := 279) hx kd_L_358 (dc kL_weighed_2 20 rfl) rfl ?_
        refine j_dcmp (q := 280) hx (dc kL_weighed_2 21 rfl) rfl ?_
        refine j_if_geS (q := 283) (tgt := 287) hx (dc kL_weighed_2 22 rfl) (by decide) rfl ?_ ?_
        · refine j_iconst (q := 288) (v := (0 : Int32)) hx (dc kL_weighed_2 25 rfl) (by decide) rfl ?_
          exact r_cW hx (Or.inl rfl) hR (dc kL_weighed_2 26 rfl)
        · refine j_iconst (q := 284) (v := (1 : Int32)) hx (dc kL_weighed_2 23 rfl) (by decide) rfl ?_
          refine j_goto (q := 288) hx (dc kL_weighed_2 24 rfl) (by decide) ?_
          exact r_cW hx (Or.inr rfl) hR (dc kL_weighed_2 26 rfl)
  have hb95 : ∀ (x0 : Nat) (x1 : Int32) (x2 : Int32) (x3 : UInt64) (x5 : UInt64) (x7 : Int32) (x8 : Int32) (x9 : Int64) (x11 : Int64) (x13 : Int32) (h : Hp), J x 95 [(0, vR x.2.2.2 x0), (1, .int x1), (2, .int x2), (3, .double x3), (5, .double x5), (7, .int x7), (8, .int x8), (9, .long x9), (11, .long x11), (13, .int x13)] [] h (mL_weighed_l95 x0 x1 x2 x3 x5 x7 x8 x9 x11 x13 h) (fun r => r = u) := by
    intro x0 x1 x2 x3 x5 x7 x8 x9 x11 x13 h
    have hB : ∀ (x5 : UInt64) (x7 : Int32) (x13 : Int32) (h : Hp), J x 95 [(0, vR x.2.2.2 x0), (1, .int x1), (2, .int x2), (3, .double x3), (5, .double x5), (7, .int x7), (8, .int x8), (9, .long x9), (11, .long x11), (13, .int x13)] [] h (mL_weighed_l95f x0 x1 x2 x3 x8 x9 x11 x5 x7 x13 h) (TLo (S := (UInt64 × Int32 × Int32 × Hp)) x 95 (fun s => [(0, vR x.2.2.2 x0), (1, .int x1), (2, .int x2), (3, .double x3), (5, .double s.1), (7, .int s.2.1), (8, .int x8), (9, .long x9), (11, .long x11), (13, .int s.2.2.1)]) [] (fun s => s.2.2.2) (fun r => r = u)) := by
      intro x5 x7 x13 h
      have hb229 : ∀ (x0 : Nat) (x1 : Int32) (x2 : Int32) (x3 : UInt64) (x5 : UInt64) (x7 : Int32) (x8 : Int32) (x9 : Int64) (x11 : Int64) (x13 : Int32) (h : Hp), J x 229 [(0, vR x.2.2.2 x0), (1, .int x1), (2, .int x2), (3, .double x3), (5, .double x5), (7, .int x7), (8, .int x8), (9, .long x9), (11, .long x11), (13, .int x13)] [] h (mL_weighed_b229 x0 x1 x2 x3 x5 x7 x8 x9 x11 x13 h) (TLo (S := (UInt64 × Int32 × Int32 × Hp)) x 95 (fun s => [(0, vR x.2.2.2 x0), (1, .int x1), (2, .int x2), (3, .double x3), (5, .double s.1), (7, .int s.2.1), (8, .int x8), (9, .long x9), (11, .long x11), (13, .int s.2.2.1)]) [] (fun s => s.2.2.2) (fun r => r = u)) := by
        intro x0 x1 x2 x3 x5 x7 x8 x9 x11 x13 h
        unfold mL_weighed_b229
        refine j_iinc (q := 232) (l2 := [(0, vR x.2.2.2 x0), (1, .int x1), (2, .int x2), (3, .double x3), (5, .double x5), (7, .int x7), (8, .int x8), (9, .long x9), (11, .long x11)]) hx (dc kL_weighed_1 61 rfl) 9 rfl (v := (1 : Int32)) (by decide) (hn 13 (by decide)) [0, 1, 2, 3, 4, 5, 6, 7, 8] rfl ⟨⟨show (0 : Nat) ≠ 13 by decide, Or.inl (show (0 : Nat) + 1 ≠ 13 by decide)⟩, ⟨⟨show (1 : Nat) ≠ 13 by decide, Or.inl (show (1 : Nat) + 1 ≠ 13 by decide)⟩, ⟨⟨show (2 : Nat) ≠ 13 by decide, Or.inl (show (2 : Nat) + 1 ≠ 13 by decide)⟩, ⟨⟨show (3 : Nat) ≠ 13 by decide, Or.inl (show (3 : Nat) + 1 ≠ 13 by decide)⟩, ⟨⟨show (5 : Nat) ≠ 13 by decide, Or.inl (show (5 : Nat) + 1 ≠ 13 by decide)⟩, ⟨⟨show (7 : Nat) ≠ 13 by decide, Or.inl (show (7 : Nat) + 1 ≠ 13 by decide)⟩, ⟨⟨show (8 : Nat) ≠ 13 by decide, Or.inl (show (8 : Nat) + 1 ≠ 13 by decide)⟩, ⟨⟨show (9 : Nat) ≠ 13 by decide, Or.inl (show (9 : Nat) + 1 ≠ 13 by decide)⟩, ⟨⟨show (11 : Nat) ≠ 13 by decide, Or.inl (show (11 : Nat) + 1 ≠ 13 by decide)⟩, trivial⟩⟩⟩⟩⟩⟩⟩⟩⟩ rfl ?_
        refine j_goto (q := 95) hx (dc kL_weighed_1 62 rfl) (by decide) ?_
        exact j_back [1, 2, 3, 4, 5, 6, 7, 8, 9, 0] (x5, x7, (x13 + (1 : Int32)), h) rfl rfl
      have hb128 : ∀ (x0 : Nat) (x1 : Int32) (x2 : Int32) (x3 : UInt64) (x5 : UInt64) (x7 : Int32) (x8 : Int32) (x9 : Int64) (x11 : Int64) (x13 : Int32) (x14 : Int32) (t0 : Int64) (h : Hp), J x 128 [(0, vR x.2.2.2 x0), (1, .int x1), (2, .int x2), (3, .double x3), (5, .double x5), (7, .int x7), (8, .int x8), (9, .long x9), (11, .long x11), (13, .int x13), (14, .int x14)] [.long t0] h (mL_weighed_b128 x0 x1 x2 x3 x5 x7 x8 x9 x11 x13 x14 t0 h) (TLo (S := (UInt64 × Int32 × Int32 × Hp)) x 95 (fun s => [(0, vR x.2.2.2 x0), (1, .int x1), (2, .int x2), (3, .double x3), (5, .double s.1), (7, .int s.2.1), (8, .int x8), (9, .long x9), (11, .long x11), (13, .int s.2.2.1)]) [] (fun s => s.2.2.2) (fun r => r = u)) := by
        intro x0 x1 x2 x3 x5 x7 x8 x9 x11 x13 x14 t0 h
        unfold mL_weighed_b128
        refine j_lstore (q := 130) (i := 15) (l2 := [(0, vR x.2.2.2 x0), (1, .int x1), (2, .int x2), (3, .double x3), (5, .double x5), (7, .int x7), (8, .int x8), (9, .long x9), (11, .long x11), (13, .int x13), (14, .int x14)]) hx (dc kL_weighed_1 2 rfl) (hn 16 (by decide)) [0, 1, 2, 3, 4, 5, 6, 7, 8, 9, 10] rfl ⟨⟨show (0 : Nat) ≠ 15 by decide, Or.inl (show (0 : Nat) + 1 ≠ 15 by decide)⟩, ⟨⟨show (1 : Nat) ≠ 15 by decide, Or.inl (show (1 : Nat) + 1 ≠ 15 by decide)⟩, ⟨⟨show (2 : Nat) ≠ 15 by decide, Or.inl (show (2 : Nat) + 1 ≠ 15 by decide)⟩, ⟨⟨show (3 : Nat) ≠ 15 by decide, Or.inl (show (3 : Nat) + 1 ≠ 15 by decide)⟩, ⟨⟨show (5 : Nat) ≠ 15 by decide, Or.inl (show (5 : Nat) + 1 ≠ 15 by decide)⟩, ⟨⟨show (7 : Nat) ≠ 15 by decide, Or.inl (show (7 : Nat) + 1 ≠ 15 by decide)⟩, ⟨⟨show (8 : Nat) ≠ 15 by decide, Or.inl (show (8 : Nat) + 1 ≠ 15 by decide)⟩, ⟨⟨show (9 : Nat) ≠ 15 by decide, Or.inl (show (9 : Nat) + 1 ≠ 15 by decide)⟩, ⟨⟨show (11 : Nat) ≠ 15 by decide, Or.inl (show (11 : Nat) + 1 ≠ 15 by decide)⟩, ⟨⟨show (13 : Nat) ≠ 15 by decide, Or.inl (show (13 : Nat) + 1 ≠ 15 by decide)⟩, ⟨⟨show (14 : Nat) ≠ 15 by decide, Or.inr rfl⟩, trivial⟩⟩⟩⟩⟩⟩⟩⟩⟩⟩⟩ (by simp) rfl ?_
        refine j_aload_n (q := 131) hx (dc kL_weighed_1 3 rfl) rfl 1 rfl rfl ?_
        refine j_iload_n (q := 132) hx (dc kL_weighed_1 4 rfl) rfl 3 rfl rfl ?_
        refine j_iload (q := 134) hx (dc kL_weighed_1 5 rfl) 10 rfl rfl ?_
        refine w_cVIW (q := 137) (As := [.int x2, .int x13]) (st := []) hx (dc kL_weighed_1 6 rfl) cf15 (by decide) rfl (cI _ my_L_makes lm_L_332 (by decide)) vs_L_makes rfl (fun u hu => sL_makes _ _ _ _ _ _ _ hu) (fun e => ite_ne (by unfold mL_makes at e; exact e)) (Nat.zero_le _) rfl (fun v39 h40 => ?_)
        refine j_if_neS (q := 140) (tgt := 163) hx (dc kL_weighed_1 7 rfl) (by decide) rfl ?_ ?_
        · refine j_lload (q := 165) hx (dc kL_weighed_1 20 rfl) 0 rfl rfl ?_
          refine j_lconst (q := 166) (v := (0 : Int64)) hx (dc kL_weighed_1 21 rfl) (by decide) rfl ?_
          refine j_lcmp (q := 167) hx (dc kL_weighed_1 22 rfl) rfl ?_
          refine j_if_gt (q := 170) (tgt := 172) hx (dc kL_weighed_1 23 rfl) (by decide) Iff.rfl rfl ?_ ?_
          · refine j_dload (q := 174) hx (dc kL_weighed_1 26 rfl) 5 rfl rfl ?_
            refine j_lload (q := 176) hx (dc kL_weighed_1 27 rfl) 0 rfl rfl ?_
            refine j_l2d (q := 177) hx (dc kL_weighed_1 28 rfl) rfl ?_
            refine j_lload (q := 179) hx (dc kL_weighed_1 29 rfl) 9 rfl rfl ?_
            refine j_l2d (q := 180) hx (dc kL_weighed_1 30 rfl) rfl ?_
            refine j_ddiv (q := 181) hx (dc kL_weighed_1 31 rfl) rfl (fun v41 => ?_)
            refine j_aload_n (q := 182) hx (dc kL_weighed_1 32 rfl) rfl 1 rfl rfl ?_
            refine w_gR (q := 185) hx (dc kL_weighed_1 33 rfl) ff_L_0 lk_L_10 rfl (fun v42 => ?_)
            refine j_iload_n (q := 186) hx (dc kL_weighed_1 34 rfl) rfl 2 rfl rfl ?_
            refine j_iconst (q := 187) (v := (0 : Int32)) hx (dc kL_weighed_1 35 rfl) (by decide) rfl ?_
            refine w_cVIW (q := 190) (As := [.int x1, .int (0 : Int32)]) (st := [.double v41, .double x5]) hx (dc kL_weighed_1 36 rfl) cf11 (by decide) rfl (cI _ my_X11_chance lm_L_263 (by decide)) vs_X11_chance rfl (fun u hu => sX11_chance _ _ _ _ _ _ _ hu) (fun e => ite_ne (by unfold mX11_chance at e; exact e)) (sum_le (sum_D (sum_D sum_nil)) (by decide)) rfl (fun v43 h44 => ?_)
            refine j_i2d (q := 191) hx (dc kL_weighed_1 37 rfl) rfl ?_
            refine j_dmul (q := 192) hx (dc kL_weighed_1 38 rfl) rfl (fun v45 => ?_)
            refine j_aload_n (q := 193) hx (dc kL_weighed_1 39 rfl) rfl 1 rfl rfl ?_
            refine w_gR (q := 196) hx (dc kL_weighed_1 40 rfl) ff_L_0 lk_L_10 rfl (fun v46 => ?_)
            refine j_iload_n (q := 197) hx (dc kL_weighed_1 41 rfl) rfl 2 rfl rfl ?_
            refine j_iconst (q := 198) (v := (1 : Int32)) hx (dc kL_weighed_1 42 rfl) (by decide) rfl ?_
            refine w_cVIW (q := 201) (As := [.int x1, .int (1 : Int32)]) (st := [.double v45, .double x5]) hx (dc kL_weighed_1 43 rfl) cf11 (by decide) rfl (cI _ my_X11_chance lm_L_263 (by decide)) vs_X11_chance rfl (fun u hu => sX11_chance _ _ _ _ _ _ _ hu) (fun e => ite_ne (by unfold mX11_chance at e; exact e)) (sum_le (sum_D (sum_D sum_nil)) (by decide)) rfl (fun v47 h48 => ?_)
            refine j_i2d (q := 202) hx (dc kL_weighed_1 44 rfl) rfl ?_
            refine j_ddiv (q := 203) hx (dc kL_weighed_1 45 rfl) rfl (fun v49 => ?_)
            refine j_dadd (q := 204) hx (dc kL_weighed_1 46 rfl) rfl (fun v50 => ?_)
            refine j_dstore (q := 206) (i := 5) (l2 := [(0, vR x.2.2.2 x0), (1, .int x1), (2, .int x2), (3, .double x3), (7, .int x7), (8, .int x8), (9, .long x9), (11, .long x11), (13, .int x13)]) hx (dc kL_weighed_1 47 rfl) (hn 6 (by decide)) [1, 2, 3, 4, 6, 7, 8, 9, 10] rfl ⟨⟨show (0 : Nat) ≠ 5 by decide, Or.inl (show (0 : Nat) + 1 ≠ 5 by decide)⟩, ⟨⟨show (1 : Nat) ≠ 5 by decide, Or.inl (show (1 : Nat) + 1 ≠ 5 by decide)⟩, ⟨⟨show (2 : Nat) ≠ 5 by decide, Or.inl (show (2 : Nat) + 1 ≠ 5 by decide)⟩, ⟨⟨show (3 : Nat) ≠ 5 by decide, Or.inl (show (3 : Nat) + 1 ≠ 5 by decide)⟩, ⟨⟨show (7 : Nat) ≠ 5 by decide, Or.inl (show (7 : Nat) + 1 ≠ 5 by decide)⟩, ⟨⟨show (8 : Nat) ≠ 5 by decide, Or.inl (show (8 : Nat) + 1 ≠ 5 by decide)⟩, ⟨⟨show (9 : Nat) ≠ 5 by decide, Or.inl (show (9 : Nat) + 1 ≠ 5 by decide)⟩, ⟨⟨show (11 : Nat) ≠ 5 by decide, Or.inl (show (11 : Nat) + 1 ≠ 5 by decide)⟩, ⟨⟨show (13 : Nat) ≠ 5 by decide, Or.inl (show (13 : Nat) + 1 ≠ 5 by decide)⟩, trivial⟩⟩⟩⟩⟩⟩⟩⟩⟩ (by simp) rfl ?_
            refine j_iload (q := 208) hx (dc kL_weighed_1 48 rfl) 5 rfl rfl ?_
            refine j_aload_n (q := 209) hx (dc kL_weighed_1 49 rfl) rfl 1 rfl rfl ?_
            refine w_gR (q := 212) hx (dc kL_weighed_1 50 rfl) ff_L_0 lk_L_10 rfl (fun v51 => ?_)
            refine j_iconst (q := 213) (v := (1 : Int32)) hx (dc kL_weighed_1 51 rfl) (by decide) rfl ?_
            refine w_cVIW (q := 216) (As := [.int (1 : Int32)]) (st := [.int x7]) hx (dc kL_weighed_1 52 rfl) cf11 (by decide) rfl (cI _ my_X11_worlds lm_L_266 (by decide)) vs_X11_worlds rfl (fun u hu => sX11_worlds _ _ _ _ _ _ hu) (fun e => ite_ne (by unfold mX11_worlds at e; exact e)) (sum_le (sum_I sum_nil) (by decide)) rfl (fun v52 h53 => ?_)
            refine j_isub (q := 217) hx (dc kL_weighed_1 53 rfl) rfl ?_
            refine j_istore (q := 219) (i := 7) (l2 := [(5, .double v50), (0, vR x.2.2.2 x0), (1, .int x1), (2, .int x2), (3, .double x3), (8, .int x8), (9, .long x9), (11, .long x11), (13, .int x13)]) hx (dc kL_weighed_1 54 rfl) (hn 7 (by decide)) [0, 1, 2, 3, 4, 6, 7, 8, 9] rfl ⟨⟨show (5 : Nat) ≠ 7 by decide, Or.inl (show (5 : Nat) + 1 ≠ 7 by decide)⟩, ⟨⟨show (0 : Nat) ≠ 7 by decide, Or.inl (show (0 : Nat) + 1 ≠ 7 by decide)⟩, ⟨⟨show (1 : Nat) ≠ 7 by decide, Or.inl (show (1 : Nat) + 1 ≠ 7 by decide)⟩, ⟨⟨show (2 : Nat) ≠ 7 by decide, Or.inl (show (2 : Nat) + 1 ≠ 7 by decide)⟩, ⟨⟨show (3 : Nat) ≠ 7 by decide, Or.inl (show (3 : Nat) + 1 ≠ 7 by decide)⟩, ⟨⟨show (8 : Nat) ≠ 7 by decide, Or.inl (show (8 : Nat) + 1 ≠ 7 by decide)⟩, ⟨⟨show (9 : Nat) ≠ 7 by decide, Or.inl (show (9 : Nat) + 1 ≠ 7 by decide)⟩, ⟨⟨show (11 : Nat) ≠ 7 by decide, Or.inl (show (11 : Nat) + 1 ≠ 7 by decide)⟩, ⟨⟨show (13 : Nat) ≠ 7 by decide, Or.inl (show (13 : Nat) + 1 ≠ 7 by decide)⟩, trivial⟩⟩⟩⟩⟩⟩⟩⟩⟩ rfl ?_
            refine j_aload_n (q := 220) hx (dc kL_weighed_1 55 rfl) rfl 2 rfl rfl ?_
            refine j_iconst (q := 221) (v := (1 : Int32)) hx (dc kL_weighed_1 56 rfl) (by decide) rfl ?_
            refine w_cVIW (q := 224) (As := [.int (1 : Int32)]) (st := []) hx (dc kL_weighed_1 57 rfl) cf15 (by decide) rfl (cI _ my_L_taken lm_L_313 (by decide)) vs_L_taken rfl (fun u hu => sL_taken _ _ _ _ _ _ hu) (fun e => ite_ne (by unfold mL_taken at e; exact e)) (Nat.zero_le _) rfl (fun v54 h55 => ?_)
            refine j_if_neS (q := 227) (tgt := 229) hx (dc kL_weighed_1 58 rfl) (by decide) rfl ?_ ?_
            · exact j_sub [2, 3, 4, 5, 1, 0, 6, 7, 8, 9] rfl (hb229 x0 x1 x2 x3 v50 (x7 - v52) x8 x9 x11 x13 h55)
            · refine j_exit ?_
              refine j_iconst (q := 228) (v := (0 : Int32)) hx (dc kL_weighed_1 59 rfl) (by decide) rfl ?_
              exact r_cW hx (Or.inl rfl) hR (dc kL_weighed_1 60 rfl)
          · refine j_exit ?_
            refine j_iconst (q := 171) (v := (0 : Int32)) hx (dc kL_weighed_1 24 rfl) (by decide) rfl ?_
            exact r_cW hx (Or.inl rfl) hR (dc kL_weighed_1 25 rfl)
        · refine j_lload (q := 142) hx (dc kL_weighed_1 8 rfl) 0 rfl rfl ?_
          refine j_lconst (q := 143) (v := (0 : Int64)) hx (dc kL_weighed_1 9 rfl) (by decide) rfl ?_
          refine j_lcmp (q := 144) hx (dc kL_weighed_1 10 rfl) rfl ?_
          refine j_if_neS (q := 147) (tgt := 161) hx (dc kL_weighed_1 11 rfl) (by decide) rfl ?_ ?_
          · refine j_exit ?_
            refine j_iconst (q := 162) (v := (0 : Int32)) hx (dc kL_weighed_1 18 rfl) (by decide) rfl ?_
            exact r_cW hx (Or.inl rfl) hR (dc kL_weighed_1 19 rfl)
          · refine j_aload_n (q := 148) hx (dc kL_weighed_1 12 rfl) rfl 1 rfl rfl ?_
            refine w_gR (q := 151) hx (dc kL_weighed_1 13 rfl) ff_L_0 lk_L_10 rfl (fun v56 => ?_)
            refine j_bipush (q := 153) (v := (7 : Int32)) hx (dc kL_weighed_1 14 rfl) (by decide) rfl ?_
            refine w_cVIW (q := 156) (As := [.int (7 : Int32)]) (st := []) hx (dc kL_weighed_1 15 rfl) cf11 (by decide) rfl (cI _ my_X11_count lm_L_251 (by decide)) vs_X11_count rfl (fun u hu => sX11_count _ _ _ _ _ _ hu) (fun e => ite_ne (by unfold mX11_count at e; exact e)) (Nat.zero_le _) rfl (fun v57 h58 => ?_)
            refine j_iload (q := 158) hx (dc kL_weighed_1 16 rfl) 11 rfl rfl ?_
            refine j_icmp_eq (q := 161) (tgt := 229) hx (dc kL_weighed_1 17 rfl) (by decide) Iff.rfl rfl ?_ ?_
            · exact j_sub [1, 2, 3, 4, 5, 6, 7, 8, 9, 10] rfl (hb229 x0 x1 x2 x3 x5 x7 x8 x9 x11 x13 h58)
            · refine j_exit ?_
              refine j_iconst (q := 162) (v := (0 : Int32)) hx (dc kL_weighed_1 18 rfl) (by decide) rfl ?_
              exact r_cW hx (Or.inl rfl) hR (dc kL_weighed_1 19 rfl)
      unfold mL_weighed_l95f
      refine j_iload (q := 97) hx (dc kL_weighed_0 50 rfl) 9 rfl rfl ?_
      refine j_iconst (q := 98) (v := (2 : Int32)) hx (dc kL_weighed_0 51 rfl) (by decide) rfl ?_
      refine j_icmp_geS (q := 101) (tgt := 235) hx (dc kL_weighed_0 52 rfl) (by decide) rfl ?_ ?_
      · refine j_exit ?_
        refine j_iload (q := 237) hx (dc kL_weighed_1 63 rfl) 6 rfl rfl ?_
        refine j_lload (q := 239) hx (dc kL_weighed_2 0 rfl) 7 rfl rfl ?_
        refine j_lconst (q := 240) (v := (0 : Int64)) hx (dc kL_weighed_2 1 rfl) (by decide) rfl ?_
        refine j_lcmp (q := 241) hx (dc kL_weighed_2 2 rfl) rfl ?_
        refine j_if_neS (q := 244) (tgt := 248) hx (dc kL_weighed_2 3 rfl) (by decide) rfl ?_ ?_
        · refine j_lload (q := 250) hx (dc kL_weighed_2 6 rfl) 7 rfl rfl ?_
          refine j_lload (q := 252) hx (dc kL_weighed_2 7 rfl) 8 rfl rfl ?_
          refine j_lcmp (q := 253) hx (dc kL_weighed_2 8 rfl) rfl ?_
          refine j_if_neS (q := 256) (tgt := 260) hx (dc kL_weighed_2 9 rfl) (by decide) rfl ?_ ?_
          · refine j_iconst (q := 261) (v := (2 : Int32)) hx (dc kL_weighed_2 12 rfl) (by decide) rfl ?_
            exact j_sub [3, 4, 5] rfl (hb261 x3 x5 x7 x8 (2 : Int32) h)
          · refine j_iconst (q := 257) (v := (1 : Int32)) hx (dc kL_weighed_2 10 rfl) (by decide) rfl ?_
            refine j_goto (q := 261) hx (dc kL_weighed_2 11 rfl) (by decide) ?_
            exact j_sub [3, 4, 5] rfl (hb261 x3 x5 x7 x8 (1 : Int32) h)
        · refine j_iconst (q := 245) (v := (0 : Int32)) hx (dc kL_weighed_2 4 rfl) (by decide) rfl ?_
          refine j_goto (q := 261) hx (dc kL_weighed_2 5 rfl) (by decide) ?_
          exact j_sub [3, 4, 5] rfl (hb261 x3 x5 x7 x8 (0 : Int32) h)
      · refine j_aload_n (q := 102) hx (dc kL_weighed_0 53 rfl) rfl 0 rfl rfl ?_
        refine w_gR (q := 105) hx (dc kL_weighed_0 54 rfl) ff_L_0 lk_L_10 rfl (fun v36 => ?_)
        refine j_bipush (q := 107) (v := (7 : Int32)) hx (dc kL_weighed_0 55 rfl) (by decide) rfl ?_
        refine w_cVIW (q := 110) (As := [.int (7 : Int32)]) (st := []) hx (dc kL_weighed_0 56 rfl) cf11 (by decide) rfl (cI _ my_X11_count lm_L_251 (by decide)) vs_X11_count rfl (fun u hu => sX11_count _ _ _ _ _ _ hu) (fun e => ite_ne (by unfold mX11_count at e; exact e)) (Nat.zero_le _) rfl (fun v37 h38 => ?_)
        refine j_istore (q := 112) (i := 14) (l2 := [(0, vR x.2.2.2 x0), (1, .int x1), (2, .int x2), (3, .double x3), (5, .double x5), (7, .int x7), (8, .int x8), (9, .long x9), (11, .long x11), (13, .int x13)]) hx (dc kL_weighed_0 57 rfl) (hn 14 (by decide)) [0, 1, 2, 3, 4, 5, 6, 7, 8, 9] rfl ⟨⟨show (0 : Nat) ≠ 14 by decide, Or.inl (show (0 : Nat) + 1 ≠ 14 by decide)⟩, ⟨⟨show (1 : Nat) ≠ 14 by decide, Or.inl (show (1 : Nat) + 1 ≠ 14 by decide)⟩, ⟨⟨show (2 : Nat) ≠ 14 by decide, Or.inl (show (2 : Nat) + 1 ≠ 14 by decide)⟩, ⟨⟨show (3 : Nat) ≠ 14 by decide, Or.inl (show (3 : Nat) + 1 ≠ 14 by decide)⟩, ⟨⟨show (5 : Nat) ≠ 14 by decide, Or.inl (show (5 : Nat) + 1 ≠ 14 by decide)⟩, ⟨⟨show (7 : Nat) ≠ 14 by decide, Or.inl (show (7 : Nat) + 1 ≠ 14 by decide)⟩, ⟨⟨show (8 : Nat) ≠ 14 by decide, Or.inl (show (8 : Nat) + 1 ≠ 14 by decide)⟩, ⟨⟨show (9 : Nat) ≠ 14 by decide, Or.inl (show (9 : Nat) + 1 ≠ 14 by decide)⟩, ⟨⟨show (11 : Nat) ≠ 14 by decide, Or.inl (show (11 : Nat) + 1 ≠ 14 by decide)⟩, ⟨⟨show (13 : Nat) ≠ 14 by decide, Or.inr rfl⟩, trivial⟩⟩⟩⟩⟩⟩⟩⟩⟩⟩ rfl ?_
        refine j_iload (q := 114) hx (dc kL_weighed_0 58 rfl) 10 rfl rfl ?_
        refine j_iconst (q := 115) (v := (1 : Int32)) hx (dc kL_weighed_0 59 rfl) (by decide) rfl ?_
        refine j_icmp_neS (q := 118) (tgt := 123) hx (dc kL_weighed_0 60 rfl) (by decide) rfl ?_ ?_
        · refine j_lload (q := 125) hx (dc kL_weighed_0 63 rfl) 9 rfl rfl ?_
          refine j_lload (q := 127) hx (dc kL_weighed_1 0 rfl) 8 rfl rfl ?_
          refine j_lsub (q := 128) hx (dc kL_weighed_1 1 rfl) rfl ?_
          exact j_sub [1, 2, 3, 4, 5, 6, 7, 8, 9, 10, 0] rfl (hb128 x0 x1 x2 x3 x5 x7 x8 x9 x11 x13 v37 (x11 - x9) h38)
        · refine j_lload (q := 120) hx (dc kL_weighed_0 61 rfl) 8 rfl rfl ?_
          refine j_goto (q := 128) hx (dc kL_weighed_0 62 rfl) (by decide) ?_
          exact j_sub [1, 2, 3, 4, 5, 6, 7, 8, 9, 10, 0] rfl (hb128 x0 x1 x2 x3 x5 x7 x8 x9 x11 x13 v37 x9 h38)
    exact j_loop (S := (UInt64 × Int32 × Int32 × Hp)) (lvf := fun s => [(0, vR x.2.2.2 x0), (1, .int x1), (2, .int x2), (3, .double x3), (5, .double s.1), (7, .int s.2.1), (8, .int x8), (9, .long x9), (11, .long x11), (13, .int s.2.2.1)]) (hpf := fun s => s.2.2.2) (f := (fun s : (UInt64 × Int32 × Int32 × Hp) => mL_weighed_l95f x0 x1 x2 x3 x8 x9 x11 s.1 s.2.1 s.2.2.1 s.2.2.2)) (fun s => hB s.1 s.2.1 s.2.2.1 s.2.2.2) (x5, x7, x13, h)
  unfold mL_weighed
  refine J.ckd fun hck => ?_
  refine j_aload_n (q := 1) hx (dc kL_weighed_0 0 rfl) rfl 0 rfl rfl ?_
  refine w_gR (q := 4) hx (dc kL_weighed_0 1 rfl) ff_L_0 lk_L_10 rfl (fun v1 => ?_)
  refine j_iload_n (q := 5) hx (dc kL_weighed_0 2 rfl) rfl 1 rfl rfl ?_
  refine j_iconst (q := 6) (v := (0 : Int32)) hx (dc kL_weighed_0 3 rfl) (by decide) rfl ?_
  refine w_cVIW (q := 9) (As := [.int x1, .int (0 : Int32)]) (st := []) hx (dc kL_weighed_0 4 rfl) cf11 (by decide) rfl (cI _ my_X11_chance lm_L_263 (by decide)) vs_X11_chance rfl (fun u hu => sX11_chance _ _ _ _ _ _ _ hu) (fun e => ite_ne (by unfold mX11_chance at e; exact e)) (Nat.zero_le _) rfl (fun v2 h3 => ?_)
  refine j_i2d (q := 10) hx (dc kL_weighed_0 5 rfl) rfl ?_
  refine j_aload_n (q := 11) hx (dc kL_weighed_0 6 rfl) rfl 0 rfl rfl ?_
  refine w_gR (q := 14) hx (dc kL_weighed_0 7 rfl) ff_L_0 lk_L_10 rfl (fun v4 => ?_)
  refine j_iload_n (q := 15) hx (dc kL_weighed_0 8 rfl) rfl 1 rfl rfl ?_
  refine j_iconst (q := 16) (v := (1 : Int32)) hx (dc kL_weighed_0 9 rfl) (by decide) rfl ?_
  refine w_cVIW (q := 19) (As := [.int x1, .int (1 : Int32)]) (st := [.double (FP.i2d v2)]) hx (dc kL_weighed_0 10 rfl) cf11 (by decide) rfl (cI _ my_X11_chance lm_L_263 (by decide)) vs_X11_chance rfl (fun u hu => sX11_chance _ _ _ _ _ _ _ hu) (fun e => ite_ne (by unfold mX11_chance at e; exact e)) (sum_le (sum_D sum_nil) (by decide)) rfl (fun v5 h6 => ?_)
  refine j_i2d (q := 20) hx (dc kL_weighed_0 11 rfl) rfl ?_
  refine j_ddiv (q := 21) hx (dc kL_weighed_0 12 rfl) rfl (fun v7 => ?_)
  refine j_dstore_n (q := 22) (i := 3) (l2 := [(0, vR x.2.2.2 x0), (1, .int x1), (2, .int x2)]) hx (dc kL_weighed_0 13 rfl) rfl (hn 4 (by decide)) [0, 1, 2] rfl ⟨⟨show (0 : Nat) ≠ 3 by decide, Or.inl (show (0 : Nat) + 1 ≠ 3 by decide)⟩, ⟨⟨show (1 : Nat) ≠ 3 by decide, Or.inl (show (1 : Nat) + 1 ≠ 3 by decide)⟩, ⟨⟨show (2 : Nat) ≠ 3 by decide, Or.inr rfl⟩, trivial⟩⟩⟩ (by simp) rfl ?_
  refine j_dconst0 (q := 23) hx (dc kL_weighed_0 14 rfl) rfl ?_
  refine j_dstore (q := 25) (i := 5) (l2 := [(3, .double v7), (0, vR x.2.2.2 x0), (1, .int x1), (2, .int x2)]) hx (dc kL_weighed_0 15 rfl) (hn 6 (by decide)) [0, 1, 2, 3] rfl ⟨⟨show (3 : Nat) ≠ 5 by decide, Or.inl (show (3 : Nat) + 1 ≠ 5 by decide)⟩, ⟨⟨show (0 : Nat) ≠ 5 by decide, Or.inl (show (0 : Nat) + 1 ≠ 5 by decide)⟩, ⟨⟨show (1 : Nat) ≠ 5 by decide, Or.inl (show (1 : Nat) + 1 ≠ 5 by decide)⟩, ⟨⟨show (2 : Nat) ≠ 5 by decide, Or.inl (show (2 : Nat) + 1 ≠ 5 by decide)⟩, trivial⟩⟩⟩⟩ (by simp) rfl ?_
  refine j_aload_n (q := 26) hx (dc kL_weighed_0 16 rfl) rfl 2 rfl rfl ?_
  refine w_gR (q := 29) hx (dc kL_weighed_0 17 rfl) ff_L_0 lk_L_10 rfl (fun v8 => ?_)
  refine j_iconst (q := 30) (v := (1 : Int32)) hx (dc kL_weighed_0 18 rfl) (by decide) rfl ?_
  refine w_cVIW (q := 33) (As := [.int (1 : Int32)]) (st := []) hx (dc kL_weighed_0 19 rfl) cf11 (by decide) rfl (cI _ my_X11_worlds lm_L_266 (by decide)) vs_X11_worlds rfl (fun u hu => sX11_worlds _ _ _ _ _ _ hu) (fun e => ite_ne (by unfold mX11_worlds at e; exact e)) (Nat.zero_le _) rfl (fun v9 h10 => ?_)
  refine j_istore (q := 35) (i := 7) (l2 := [(5, .double (0 : UInt64)), (3, .double v7), (0, vR x.2.2.2 x0), (1, .int x1), (2, .int x2)]) hx (dc kL_weighed_0 20 rfl) (hn 7 (by decide)) [0, 1, 2, 3, 4] rfl ⟨⟨show (5 : Nat) ≠ 7 by decide, Or.inl (show (5 : Nat) + 1 ≠ 7 by decide)⟩, ⟨⟨show (3 : Nat) ≠ 7 by decide, Or.inl (show (3 : Nat) + 1 ≠ 7 by decide)⟩, ⟨⟨show (0 : Nat) ≠ 7 by decide, Or.inl (show (0 : Nat) + 1 ≠ 7 by decide)⟩, ⟨⟨show (1 : Nat) ≠ 7 by decide, Or.inl (show (1 : Nat) + 1 ≠ 7 by decide)⟩, ⟨⟨show (2 : Nat) ≠ 7 by decide, Or.inl (show (2 : Nat) + 1 ≠ 7 by decide)⟩, trivial⟩⟩⟩⟩⟩ rfl ?_
  refine j_aload_n (q := 36) hx (dc kL_weighed_0 21 rfl) rfl 3 rfl rfl ?_
  refine j_new (q := 39) hx (dc kL_weighed_0 22 rfl) cf16 (by decide) nw_L_127 rfl (fun v12 hvv12 h11 => ?_)
  refine j_dup (q := 40) hx (dc kL_weighed_0 23 rfl) (vR_cat _ _) rfl ?_
  refine w_cIVW (q := 43) (As := []) (st := [vR x.2.2.2 v12, vR x.2.2.2 x0]) hx (dc kL_weighed_0 24 rfl) (cI _ my_J4_init_da8c8 lm_L_129 (by decide)) is_J4_init_da8c8 rfl rfl (fun u hu => sJ4_init_da8c8 hvv12 _ _ _ _ hu) hvv12 (sum_le (sum_R (sum_R sum_nil)) (by decide)) rfl (fun h14 => ?_)
  refine j_ldcS (a := 4) (q := 45) hx (show (_, _, "", _) ∈ strs0 by decide +kernel) (dc kL_weighed_0 25 rfl) rfl ?_
  refine w_cVRW (q := 48) (As := [vR x.2.2.2 14]) (st := [vR x.2.2.2 x0]) hx (dc kL_weighed_0 26 rfl) cf16 (by decide) rfl (cI _ my_J4_append_15ec4 lm_L_130 (by decide)) vs_J4_append_15ec4 rfl (fun u hu => sJ4_append_15ec4 _ _ _ _ _ _ hu) (fun e => ite_ne (by unfold mJ4_append_15ec4 at e; exact e)) (sum_le (sum_R sum_nil) (by decide)) rfl (fun v15 h16 => ?_)
  refine j_iload_n (q := 49) hx (dc kL_weighed_0 27 rfl) rfl 5 rfl rfl ?_
  refine w_cSRW (q := 52) (As := [.int x2]) (st := [vR x.2.2.2 v15, vR x.2.2.2 x0]) hx (dc kL_weighed_0 28 rfl) (cI _ my_L_fact lm_L_165 (by decide)) st_L_fact rfl (fun u hu => sL_fact _ _ _ _ _ hu) (sum_le (sum_R (sum_R sum_nil)) (by decide)) rfl (fun v17 h18 => ?_)
  refine w_cVRW (q := 55) (As := [vR x.2.2.2 v17]) (st := [vR x.2.2.2 x0]) hx (dc kL_weighed_0 29 rfl) cf16 (by decide) rfl (cI _ my_J4_append_15ec4 lm_L_130 (by decide)) vs_J4_append_15ec4 rfl (fun u hu => sJ4_append_15ec4 _ _ _ _ _ _ hu) (fun e => ite_ne (by unfold mJ4_append_15ec4 at e; exact e)) (sum_le (sum_R sum_nil) (by decide)) rfl (fun v19 h20 => ?_)
  refine w_cVRW (q := 58) (As := []) (st := [vR x.2.2.2 x0]) hx (dc kL_weighed_0 30 rfl) cf16 (by decide) rfl (cI _ my_J4_toString_0e30d lm_L_137 (by decide)) vs_J4_toString_0e30d rfl (fun u hu => sJ4_toString_0e30d _ _ _ _ _ hu) (fun e => ite_ne (by unfold mJ4_toString_0e30d at e; exact e)) (sum_le (sum_R sum_nil) (by decide)) rfl (fun v21 h22 => ?_)
  refine w_cVVW (q := 61) (As := [vR x.2.2.2 v21]) (st := []) hx (dc kL_weighed_0 31 rfl) cf15 (by decide) rfl (cI _ my_L_text lm_L_242 (by decide)) vs_L_text rfl (fun u hu => sL_text _ _ _ _ _ _ hu) (fun e => ite_ne (by unfold mL_text at e; exact e)) (Nat.zero_le _) rfl (fun h24 => ?_)
  refine j_aload_n (q := 62) hx (dc kL_weighed_0 32 rfl) rfl 3 rfl rfl ?_
  refine w_gR (q := 65) hx (dc kL_weighed_0 33 rfl) ff_L_0 lk_L_10 rfl (fun v25 => ?_)
  refine w_cVIW (q := 68) (As := []) (st := []) hx (dc kL_weighed_0 34 rfl) cf11 (by decide) rfl (cI _ my_X11_ask lm_L_348 (by decide)) vs_X11_ask rfl (fun u hu => sX11_ask _ _ _ _ _ hu) (fun e => ite_ne (by unfold mX11_ask at e; exact e)) (Nat.zero_le _) rfl (fun v26 h27 => ?_)
  refine j_istore (q := 70) (i := 8) (l2 := [(7, .int v9), (5, .double (0 : UInt64)), (3, .double v7), (0, vR x.2.2.2 x0), (1, .int x1), (2, .int x2)]) hx (dc kL_weighed_0 35 rfl) (hn 8 (by decide)) [0, 1, 2, 3, 4, 5] rfl ⟨⟨show (7 : Nat) ≠ 8 by decide, Or.inr rfl⟩, ⟨⟨show (5 : Nat) ≠ 8 by decide, Or.inl (show (5 : Nat) + 1 ≠ 8 by decide)⟩, ⟨⟨show (3 : Nat) ≠ 8 by decide, Or.inl (show (3 : Nat) + 1 ≠ 8 by decide)⟩, ⟨⟨show (0 : Nat) ≠ 8 by decide, Or.inl (show (0 : Nat) + 1 ≠ 8 by decide)⟩, ⟨⟨show (1 : Nat) ≠ 8 by decide, Or.inl (show (1 : Nat) + 1 ≠ 8 by decide)⟩, ⟨⟨show (2 : Nat) ≠ 8 by decide, Or.inl (show (2 : Nat) + 1 ≠ 8 by decide)⟩, trivial⟩⟩⟩⟩⟩⟩ rfl ?_
  refine j_aload_n (q := 71) hx (dc kL_weighed_0 36 rfl) rfl 4 rfl rfl ?_
  refine w_gR (q := 74) hx (dc kL_weighed_0 37 rfl) ff_L_0 lk_L_10 rfl (fun v28 => ?_)
  refine j_iconst (q := 75) (v := (0 : Int32)) hx (dc kL_weighed_0 38 rfl) (by decide) rfl ?_
  refine w_cVIR (q := 78) (As := [.int (0 : Int32)]) (st := []) hx (dc kL_weighed_0 39 rfl) cf11 (by decide) rfl (cI _ my_X11_asked lm_L_351 (by decide)) vs_X11_asked rfl (fun u hu => sX11_asked _ _ _ _ _ _ hu) (fun e => ite_ne (by unfold mX11_asked at e; exact e)) (Nat.zero_le _) rfl (fun v29 => ?_)
  refine j_i2l (q := 79) hx (dc kL_weighed_0 40 rfl) rfl ?_
  refine j_lstore (q := 81) (i := 9) (l2 := [(8, .int v26), (7, .int v9), (5, .double (0 : UInt64)), (3, .double v7), (0, vR x.2.2.2 x0), (1, .int x1), (2, .int x2)]) hx (dc kL_weighed_0 41 rfl) (hn 10 (by decide)) [0, 1, 2, 3, 4, 5, 6] rfl ⟨⟨show (8 : Nat) ≠ 9 by decide, Or.inr rfl⟩, ⟨⟨show (7 : Nat) ≠ 9 by decide, Or.inl (show (7 : Nat) + 1 ≠ 9 by decide)⟩, ⟨⟨show (5 : Nat) ≠ 9 by decide, Or.inl (show (5 : Nat) + 1 ≠ 9 by decide)⟩, ⟨⟨show (3 : Nat) ≠ 9 by decide, Or.inl (show (3 : Nat) + 1 ≠ 9 by decide)⟩, ⟨⟨show (0 : Nat) ≠ 9 by decide, Or.inl (show (0 : Nat) + 1 ≠ 9 by decide)⟩, ⟨⟨show (1 : Nat) ≠ 9 by decide, Or.inl (show (1 : Nat) + 1 ≠ 9 by decide)⟩, ⟨⟨show (2 : Nat) ≠ 9 by decide, Or.inl (show (2 : Nat) + 1 ≠ 9 by decide)⟩, trivial⟩⟩⟩⟩⟩⟩⟩ (by simp) rfl ?_
  refine j_aload_n (q := 82) hx (dc kL_weighed_0 42 rfl) rfl 5 rfl rfl ?_
  refine w_gR (q := 85) hx (dc kL_weighed_0 43 rfl) ff_L_0 lk_L_10 rfl (fun v31 => ?_)
  refine j_iconst (q := 86) (v := (1 : Int32)) hx (dc kL_weighed_0 44 rfl) (by decide) rfl ?_
  refine w_cVIR (q := 89) (As := [.int (1 : Int32)]) (st := []) hx (dc kL_weighed_0 45 rfl) cf11 (by decide) rfl (cI _ my_X11_asked lm_L_351 (by decide)) vs_X11_asked rfl (fun u hu => sX11_asked _ _ _ _ _ _ hu) (fun e => ite_ne (by unfold mX11_asked at e; exact e)) (Nat.zero_le _) rfl (fun v32 => ?_)
  refine j_i2l (q := 90) hx (dc kL_weighed_0 46 rfl) rfl ?_
  refine j_lstore (q := 92) (i := 11) (l2 := [(9, .long v29.toInt64), (8, .int v26), (7, .int v9), (5, .double (0 : UInt64)), (3, .double v7), (0, vR x.2.2.2 x0), (1, .int x1), (2, .int x2)]) hx (dc kL_weighed_0 47 rfl) (hn 12 (by decide)) [0, 1, 2, 3, 4, 5, 6, 7] rfl ⟨⟨show (9 : Nat) ≠ 11 by decide, Or.inl (show (9 : Nat) + 1 ≠ 11 by decide)⟩, ⟨⟨show (8 : Nat) ≠ 11 by decide, Or.inl (show (8 : Nat) + 1 ≠ 11 by decide)⟩, ⟨⟨show (7 : Nat) ≠ 11 by decide, Or.inl (show (7 : Nat) + 1 ≠ 11 by decide)⟩, ⟨⟨show (5 : Nat) ≠ 11 by decide, Or.inl (show (5 : Nat) + 1 ≠ 11 by decide)⟩, ⟨⟨show (3 : Nat) ≠ 11 by decide, Or.inl (show (3 : Nat) + 1 ≠ 11 by decide)⟩, ⟨⟨show (0 : Nat) ≠ 11 by decide, Or.inl (show (0 : Nat) + 1 ≠ 11 by decide)⟩, ⟨⟨show (1 : Nat) ≠ 11 by decide, Or.inl (show (1 : Nat) + 1 ≠ 11 by decide)⟩, ⟨⟨show (2 : Nat) ≠ 11 by decide, Or.inl (show (2 : Nat) + 1 ≠ 11 by decide)⟩, trivial⟩⟩⟩⟩⟩⟩⟩⟩ (by simp) rfl ?_
  refine j_iconst (q := 93) (v := (0 : Int32)) hx (dc kL_weighed_0 48 rfl) (by decide) rfl ?_
  refine j_istore (q := 95) (i := 13) (l2 := [(11, .long v32.toInt64), (9, .long v29.toInt64), (8, .int v26), (7, .int v9), (5, .double (0 : UInt64)), (3, .double v7), (0, vR x.2.2.2 x0), (1, .int x1), (2, .int x2)]) hx (dc kL_weighed_0 49 rfl) (hn 13 (by decide)) [0, 1, 2, 3, 4, 5, 6, 7, 8] rfl ⟨⟨show (11 : Nat) ≠ 13 by decide, Or.inl (show (11 : Nat) + 1 ≠ 13 by decide)⟩, ⟨⟨show (9 : Nat) ≠ 13 by decide, Or.inl (show (9 : Nat) + 1 ≠ 13 by decide)⟩, ⟨⟨show (8 : Nat) ≠ 13 by decide, Or.inl (show (8 : Nat) + 1 ≠ 13 by decide)⟩, ⟨⟨show (7 : Nat) ≠ 13 by decide, Or.inl (show (7 : Nat) + 1 ≠ 13 by decide)⟩, ⟨⟨show (5 : Nat) ≠ 13 by decide, Or.inl (show (5 : Nat) + 1 ≠ 13 by decide)⟩, ⟨⟨show (3 : Nat) ≠ 13 by decide, Or.inl (show (3 : Nat) + 1 ≠ 13 by decide)⟩, ⟨⟨show (0 : Nat) ≠ 13 by decide, Or.inl (show (0 : Nat) + 1 ≠ 13 by decide)⟩, ⟨⟨show (1 : Nat) ≠ 13 by decide, Or.inl (show (1 : Nat) + 1 ≠ 13 by decide)⟩, ⟨⟨show (2 : Nat) ≠ 13 by decide, Or.inl (show (2 : Nat) + 1 ≠ 13 by decide)⟩, trivial⟩⟩⟩⟩⟩⟩⟩⟩⟩ rfl ?_
  exact j_sub [7, 8, 9, 6, 5, 4, 3, 2, 1, 0] rfl (hb95 x0 x1 x2 v7 (0 : UInt64) v9 v26 v29.toInt64 v32.toInt64 (0 : Int32) h27)

set_option maxHeartbeats 4000000 in
set_option maxRecDepth 100000 in
theorem sL_paid (l : Launch) (w : Wd) (x0 : Nat) (h : Hp) (u : (Int32 × Hp)) (hK : mL_paid x0 h = some u) : M1 l w mi_L_paid 9 [vR w x0] h u.2 (some (.int u.1)) := by
  refine M1.of (own := RL) (T := fun _ r => r = u) hK (by decide +kernel) rfl (by first | (simp only [lg_lenR, lg_lenI, lg_lenL, lg_len0]; decide) | decide) (fun x hx hnl hhf hl hw hret hnm hQ h0e => ⟨?_, rfl⟩)
  subst hw
  subst hl
  have hR : Rt x h u.2 (some (.int u.1)) ((some .boolean)) := ⟨h0e, hhf, hret, hQ⟩
  have hn : ∀ i, i < 11 → i < x.2.2.1.1.1 := fun i hi => by rw [hnl]; exact hi
  have e0 : lv_args 0 [vR x.2.2.2 x0] = [(0, vR x.2.2.2 x0)] := by simp only [lv_argsR, lv_argsI, lv_argsL, lv_args0]
  rw [e0]
  have hb156 : ∀ (x0 : Nat) (x1 : Int32) (x2 : Int32) (x4 : Int32) (x6 : Int32) (x7 : Int32) (h : Hp), J x 156 [(0, vR x.2.2.2 x0), (1, .int x1), (2, .int x2), (4, .int x4), (6, .int x6), (7, .int x7)] [] h (mL_paid_l156 x0 x1 x2 x4 x6 x7 h) (fun r => r = u) := by
    intro x0 x1 x2 x4 x6 x7 h
    have hB : ∀ (x6 : Int32) (x7 : Int32) (h : Hp), J x 156 [(0, vR x.2.2.2 x0), (1, .int x1), (2, .int x2), (4, .int x4), (6, .int x6), (7, .int x7)] [] h (mL_paid_l156f x0 x1 x2 x4 x6 x7 h) (TLo (S := (Int32 × Int32 × Hp)) x 156 (fun s => [(0, vR x.2.2.2 x0), (1, .int x1), (2, .int x2), (4, .int x4), (6, .int s.1), (7, .int s.2.1)]) [] (fun s => s.2.2) (fun r => r = u)) := by
      intro x6 x7 h
      have hb193 : ∀ (x0 : Nat) (x1 : Int32) (x2 : Int32) (x4 : Int32) (x7 : Int32) (t0 : Int32) (t1 : Int32) (h : Hp), J x 193 [(0, vR x.2.2.2 x0), (1, .int x1), (2, .int x2), (4, .int x4), (7, .int x7)] [.int t1, .int t0] h (mL_paid_b193 x0 x1 x2 x4 x7 t0 t1 h) (TLo (S := (Int32 × Int32 × Hp)) x 156 (fun s => [(0, vR x.2.2.2 x0), (1, .int x1), (2, .int x2), (4, .int x4), (6, .int s.1), (7, .int s.2.1)]) [] (fun s => s.2.2) (fun r => r = u)) := by
        intro x0 x1 x2 x4 x7 t0 t1 h
        unfold mL_paid_b193
        refine j_ior (q := 194) hx (dc kL_paid_1 37 rfl) rfl ?_
        refine j_istore (q := 196) (i := 6) (l2 := [(0, vR x.2.2.2 x0), (1, .int x1), (2, .int x2), (4, .int x4), (7, .int x7)]) hx (dc kL_paid_1 38 rfl) (hn 6 (by decide)) [0, 1, 2, 3, 4] rfl ⟨⟨show (0 : Nat) ≠ 6 by decide, Or.inl (show (0 : Nat) + 1 ≠ 6 by decide)⟩, ⟨⟨show (1 : Nat) ≠ 6 by decide, Or.inl (show (1 : Nat) + 1 ≠ 6 by decide)⟩, ⟨⟨show (2 : Nat) ≠ 6 by decide, Or.inl (show (2 : Nat) + 1 ≠ 6 by decide)⟩, ⟨⟨show (4 : Nat) ≠ 6 by decide, Or.inl (show (4 : Nat) + 1 ≠ 6 by decide)⟩, ⟨⟨show (7 : Nat) ≠ 6 by decide, Or.inl (show (7 : Nat) + 1 ≠ 6 by decide)⟩, trivial⟩⟩⟩⟩⟩ rfl ?_
        refine j_iinc (q := 199) (l2 := [(6, .int (t0 ||| t1)), (0, vR x.2.2.2 x0), (1, .int x1), (2, .int x2), (4, .int x4)]) hx (dc kL_paid_1 39 rfl) 5 rfl (v := (1 : Int32)) (by decide) (hn 7 (by decide)) [0, 1, 2, 3, 4] rfl ⟨⟨show (6 : Nat) ≠ 7 by decide, Or.inr rfl⟩, ⟨⟨show (0 : Nat) ≠ 7 by decide, Or.inl (show (0 : Nat) + 1 ≠ 7 by decide)⟩, ⟨⟨show (1 : Nat) ≠ 7 by decide, Or.inl (show (1 : Nat) + 1 ≠ 7 by decide)⟩, ⟨⟨show (2 : Nat) ≠ 7 by decide, Or.inl (show (2 : Nat) + 1 ≠ 7 by decide)⟩, ⟨⟨show (4 : Nat) ≠ 7 by decide, Or.inl (show (4 : Nat) + 1 ≠ 7 by decide)⟩, trivial⟩⟩⟩⟩⟩ rfl ?_
        refine j_goto (q := 156) hx (dc kL_paid_1 40 rfl) (by decide) ?_
        exact j_back [2, 3, 4, 5, 1, 0] ((t0 ||| t1), (x7 + (1 : Int32)), h) rfl rfl
      unfold mL_paid_l156f
      refine j_iload (q := 158) hx (dc kL_paid_1 19 rfl) 5 rfl rfl ?_
      refine j_aload_n (q := 159) hx (dc kL_paid_1 20 rfl) rfl 0 rfl rfl ?_
      refine w_gR (q := 162) hx (dc kL_paid_1 21 rfl) ff_L_0 lk_L_10 rfl (fun v4 => ?_)
      refine j_iconst (q := 163) (v := (2 : Int32)) hx (dc kL_paid_1 22 rfl) (by decide) rfl ?_
      refine w_cVIW (q := 166) (As := [.int (2 : Int32)]) (st := [.int x7]) hx (dc kL_paid_1 23 rfl) cf11 (by decide) rfl (cI _ my_X11_count lm_L_251 (by decide)) vs_X11_count rfl (fun u hu => sX11_count _ _ _ _ _ _ hu) (fun e => ite_ne (by unfold mX11_count at e; exact e)) (sum_le (sum_I sum_nil) (by decide)) rfl (fun v5 h6 => ?_)
      refine j_icmp_geS (q := 169) (tgt := 202) hx (dc kL_paid_1 24 rfl) (by decide) rfl ?_ ?_
      · refine j_exit ?_
        refine j_aload_n (q := 203) hx (dc kL_paid_1 41 rfl) rfl 0 rfl rfl ?_
        refine w_gR (q := 206) hx (dc kL_paid_1 42 rfl) ff_L_0 lk_L_10 rfl (fun v7 => ?_)
        refine j_iconst (q := 207) (v := (0 : Int32)) hx (dc kL_paid_1 43 rfl) (by decide) rfl ?_
        refine w_cVJW (q := 210) (As := [.int (0 : Int32)]) (st := []) hx (dc kL_paid_1 44 rfl) cf11 (by decide) rfl (cI _ my_X11_meant lm_L_366 (by decide)) vs_X11_meant rfl (fun u hu => sX11_meant _ _ _ _ _ _ hu) (fun e => ite_ne (by unfold mX11_meant at e; exact e)) (Nat.zero_le _) rfl (fun v8 h9 => ?_)
        refine j_l2d (q := 211) hx (dc kL_paid_1 45 rfl) rfl ?_
        refine j_aload_n (q := 212) hx (dc kL_paid_1 46 rfl) rfl 0 rfl rfl ?_
        refine w_gR (q := 215) hx (dc kL_paid_1 47 rfl) ff_L_0 lk_L_10 rfl (fun v10 => ?_)
        refine j_iconst (q := 216) (v := (1 : Int32)) hx (dc kL_paid_1 48 rfl) (by decide) rfl ?_
        refine w_cVJW (q := 219) (As := [.int (1 : Int32)]) (st := [.double (FP.l2d v8)]) hx (dc kL_paid_1 49 rfl) cf11 (by decide) rfl (cI _ my_X11_meant lm_L_366 (by decide)) vs_X11_meant rfl (fun u hu => sX11_meant _ _ _ _ _ _ hu) (fun e => ite_ne (by unfold mX11_meant at e; exact e)) (sum_le (sum_D sum_nil) (by decide)) rfl (fun v11 h12 => ?_)
        refine j_l2d (q := 220) hx (dc kL_paid_1 50 rfl) rfl ?_
        refine j_ddiv (q := 221) hx (dc kL_paid_1 51 rfl) rfl (fun v13 => ?_)
        refine j_dstore (q := 223) (i := 7) (l2 := [(0, vR x.2.2.2 x0), (1, .int x1), (2, .int x2), (4, .int x4), (6, .int x6)]) hx (dc kL_paid_1 52 rfl) (hn 8 (by decide)) [0, 1, 2, 3, 4] rfl ⟨⟨show (0 : Nat) ≠ 7 by decide, Or.inl (show (0 : Nat) + 1 ≠ 7 by decide)⟩, ⟨⟨show (1 : Nat) ≠ 7 by decide, Or.inl (show (1 : Nat) + 1 ≠ 7 by decide)⟩, ⟨⟨show (2 : Nat) ≠ 7 by decide, Or.inl (show (2 : Nat) + 1 ≠ 7 by decide)⟩, ⟨⟨show (4 : Nat) ≠ 7 by decide, Or.inl (show (4 : Nat) + 1 ≠ 7 by decide)⟩, ⟨⟨show (6 : Nat) ≠ 7 by decide, Or.inr rfl⟩, trivial⟩⟩⟩⟩⟩ (by simp) rfl ?_
        refine j_iload_n (q := 224) hx (dc kL_paid_1 53 rfl) rfl 2 rfl rfl ?_
        refine j_aload_n (q := 225) hx (dc kL_paid_1 54 rfl) rfl 1 rfl rfl ?_
        refine w_gR (q := 228) hx (dc kL_paid_1 55 rfl) ff_L_0 lk_L_10 rfl (fun v14 => ?_)
        refine j_iconst (q := 229) (v := (1 : Int32)) hx (dc kL_paid_1 56 rfl) (by decide) rfl ?_
        refine w_cVIW (q := 232) (As := [.int (1 : Int32)]) (st := [.int x1]) hx (dc kL_paid_1 57 rfl) cf11 (by decide) rfl (cI _ my_X11_worlds lm_L_266 (by decide)) vs_X11_worlds rfl (fun u hu => sX11_worlds _ _ _ _ _ _ hu) (fun e => ite_ne (by unfold mX11_worlds at e; exact e)) (sum_le (sum_I sum_nil) (by decide)) rfl (fun v15 h16 => ?_)
        refine j_icmp_neS (q := 235) (tgt := 358) hx (dc kL_paid_1 58 rfl) (by decide) rfl ?_ ?_
        · refine j_iconst (q := 359) (v := (0 : Int32)) hx (dc kL_paid_2 56 rfl) (by decide) rfl ?_
          exact r_cW hx (Or.inl rfl) hR (dc kL_paid_2 57 rfl)
        · refine j_iload_n (q := 236) hx (dc kL_paid_1 59 rfl) rfl 3 rfl rfl ?_
          refine j_iload (q := 238) hx (dc kL_paid_1 60 rfl) 5 rfl rfl ?_
          refine j_iconst (q := 239) (v := (-1 : Int32)) hx (dc kL_paid_1 61 rfl) (by decide) rfl ?_
          refine j_ixor (q := 240) hx (dc kL_paid_1 62 rfl) rfl ?_
          refine j_iand (q := 241) hx (dc kL_paid_1 63 rfl) rfl ?_
          refine j_if_neS (q := 244) (tgt := 358) hx (dc kL_paid_2 0 rfl) (by decide) rfl ?_ ?_
          · refine j_iconst (q := 359) (v := (0 : Int32)) hx (dc kL_paid_2 56 rfl) (by decide) rfl ?_
            exact r_cW hx (Or.inl rfl) hR (dc kL_paid_2 57 rfl)
          · refine j_iload (q := 246) hx (dc kL_paid_2 1 rfl) 5 rfl rfl ?_
            refine w_cSIR (q := 249) (As := [.int x6]) (st := []) hx (dc kL_paid_2 2 rfl) (cI _ my_J6_bitCount_0f7a4 lm_L_343 (by decide)) st_J6_bitCount_0f7a4 rfl (fun u hu => sJ6_bitCount_0f7a4 _ _ _ _ _ hu) (Nat.zero_le _) rfl (fun v17 => ?_)
            refine j_aload_n (q := 250) hx (dc kL_paid_2 3 rfl) rfl 1 rfl rfl ?_
            refine w_gR (q := 253) hx (dc kL_paid_2 4 rfl) ff_L_0 lk_L_10 rfl (fun v19 => ?_)
            refine j_iconst (q := 254) (v := (3 : Int32)) hx (dc kL_paid_2 5 rfl) (by decide) rfl ?_
            refine w_cVIW (q := 257) (As := [.int (3 : Int32)]) (st := [.int v17]) hx (dc kL_paid_2 6 rfl) cf11 (by decide) rfl (cI _ my_X11_count lm_L_251 (by decide)) vs_X11_count rfl (fun u hu => sX11_count _ _ _ _ _ _ hu) (fun e => ite_ne (by unfold mX11_count at e; exact e)) (sum_le (sum_I sum_nil) (by decide)) rfl (fun v20 h21 => ?_)
            refine j_icmp_neS (q := 260) (tgt := 358) hx (dc kL_paid_2 7 rfl) (by decide) rfl ?_ ?_
            · refine j_iconst (q := 359) (v := (0 : Int32)) hx (dc kL_paid_2 56 rfl) (by decide) rfl ?_
              exact r_cW hx (Or.inl rfl) hR (dc kL_paid_2 57 rfl)
            · refine j_aload_n (q := 261) hx (dc kL_paid_2 8 rfl) rfl 1 rfl rfl ?_
              refine w_gR (q := 264) hx (dc kL_paid_2 9 rfl) ff_L_0 lk_L_10 rfl (fun v22 => ?_)
              refine j_iconst (q := 265) (v := (0 : Int32)) hx (dc kL_paid_2 10 rfl) (by decide) rfl ?_
              refine w_cVIW (q := 268) (As := [.int (0 : Int32)]) (st := []) hx (dc kL_paid_2 11 rfl) cf11 (by decide) rfl (cI _ my_X11_elect lm_L_370 (by decide)) vs_X11_elect rfl (fun u hu => sX11_elect _ _ _ _ _ _ hu) (fun e => ite_ne (by unfold mX11_elect at e; exact e)) (Nat.zero_le _) rfl (fun v23 h24 => ?_)
              refine j_iload (q := 270) hx (dc kL_paid_2 12 rfl) 4 rfl rfl ?_
              refine j_icmp_neS (q := 273) (tgt := 358) hx (dc kL_paid_2 13 rfl) (by decide) rfl ?_ ?_
              · refine j_iconst (q := 359) (v := (0 : Int32)) hx (dc kL_paid_2 56 rfl) (by decide) rfl ?_
                exact r_cW hx (Or.inl rfl) hR (dc kL_paid_2 57 rfl)
              · refine j_aload_n (q := 274) hx (dc kL_paid_2 14 rfl) rfl 1 rfl rfl ?_
                refine w_gR (q := 277) hx (dc kL_paid_2 15 rfl) ff_L_0 lk_L_10 rfl (fun v25 => ?_)
                refine j_iconst (q := 278) (v := (1 : Int32)) hx (dc kL_paid_2 16 rfl) (by decide) rfl ?_
                refine w_cVIW (q := 281) (As := [.int (1 : Int32)]) (st := []) hx (dc kL_paid_2 17 rfl) cf11 (by decide) rfl (cI _ my_X11_elect lm_L_370 (by decide)) vs_X11_elect rfl (fun u hu => sX11_elect _ _ _ _ _ _ hu) (fun e => ite_ne (by unfold mX11_elect at e; exact e)) (Nat.zero_le _) rfl (fun v26 h27 => ?_)
                refine w_cSIR (q := 284) (As := [.int v26]) (st := []) hx (dc kL_paid_2 18 rfl) (cI _ my_J6_bitCount_0f7a4 lm_L_343 (by decide)) st_J6_bitCount_0f7a4 rfl (fun u hu => sJ6_bitCount_0f7a4 _ _ _ _ _ hu) (Nat.zero_le _) rfl (fun v28 => ?_)
                refine j_iload (q := 286) hx (dc kL_paid_2 19 rfl) 4 rfl rfl ?_
                refine j_icmp_neS (q := 289) (tgt := 358) hx (dc kL_paid_2 20 rfl) (by decide) rfl ?_ ?_
                · refine j_iconst (q := 359) (v := (0 : Int32)) hx (dc kL_paid_2 56 rfl) (by decide) rfl ?_
                  exact r_cW hx (Or.inl rfl) hR (dc kL_paid_2 57 rfl)
                · refine j_dload (q := 291) hx (dc kL_paid_2 21 rfl) 0 rfl rfl ?_
                  refine j_aload_n (q := 292) hx (dc kL_paid_2 22 rfl) rfl 1 rfl rfl ?_
                  refine w_gR (q := 295) hx (dc kL_paid_2 23 rfl) ff_L_0 lk_L_10 rfl (fun v30 => ?_)
                  refine j_iconst (q := 296) (v := (0 : Int32)) hx (dc kL_paid_2 24 rfl) (by decide) rfl ?_
                  refine w_cVIW (q := 299) (As := [.int (0 : Int32)]) (st := [.double v13]) hx (dc kL_paid_2 25 rfl) cf11 (by decide) rfl (cI _ my_X11_award lm_L_269 (by decide)) vs_X11_award rfl (fun u hu => sX11_award _ _ _ _ _ _ hu) (fun e => ite_ne (by unfold mX11_award at e; exact e)) (sum_le (sum_D sum_nil) (by decide)) rfl (fun v31 h32 => ?_)
                  refine j_i2d (q := 300) hx (dc kL_paid_2 26 rfl) rfl ?_
                  refine j_ldc2D (q := 303) hx kd_L_358 (dc kL_paid_2 27 rfl) rfl ?_
                  refine j_dsub (q := 304) hx (dc kL_paid_2 28 rfl) rfl (fun v33 => ?_)
                  refine j_dcmp (q := 305) hx (dc kL_paid_2 29 rfl) rfl ?_
                  refine j_if_lt (q := 308) (tgt := 358) hx (dc kL_paid_2 30 rfl) (by decide) Iff.rfl rfl ?_ ?_
                  · refine j_iconst (q := 359) (v := (0 : Int32)) hx (dc kL_paid_2 56 rfl) (by decide) rfl ?_
                    exact r_cW hx (Or.inl rfl) hR (dc kL_paid_2 57 rfl)
                  · refine j_dload (q := 310) hx (dc kL_paid_2 31 rfl) 0 rfl rfl ?_
                    refine j_aload_n (q := 311) hx (dc kL_paid_2 32 rfl) rfl 1 rfl rfl ?_
                    refine w_gR (q := 314) hx (dc kL_paid_2 33 rfl) ff_L_0 lk_L_10 rfl (fun v34 => ?_)
                    refine j_iconst (q := 315) (v := (1 : Int32)) hx (dc kL_paid_2 34 rfl) (by decide) rfl ?_
                    refine w_cVIW (q := 318) (As := [.int (1 : Int32)]) (st := [.double v13]) hx (dc kL_paid_2 35 rfl) cf11 (by decide) rfl (cI _ my_X11_award lm_L_269 (by decide)) vs_X11_award rfl (fun u hu => sX11_award _ _ _ _ _ _ hu) (fun e => ite_ne (by unfold mX11_award at e; exact e)) (sum_le (sum_D sum_nil) (by decide)) rfl (fun v35 h36 => ?_)
                    refine j_i2d (q := 319) hx (dc kL_paid_2 36 rfl) rfl ?_
                    refine j_ldc2D (q := 322) hx kd_L_358 (dc kL_paid_2 37 rfl) rfl ?_
                    refine j_dadd (q := 323) hx (dc kL_paid_2 38 rfl) rfl (fun v37 => ?_)
                    refine j_dcmp (q := 324) hx (dc kL_paid_2 39 rfl) rfl ?_
                    refine j_if_gt (q := 327) (tgt := 358) hx (dc kL_paid_2 40 rfl) (by decide) Iff.rfl rfl ?_ ?_
                    · refine j_iconst (q := 359) (v := (0 : Int32)) hx (dc kL_paid_2 56 rfl) (by decide) rfl ?_
                      exact r_cW hx (Or.inl rfl) hR (dc kL_paid_2 57 rfl)
                    · refine j_aload_n (q := 328) hx (dc kL_paid_2 41 rfl) rfl 1 rfl rfl ?_
                      refine w_gR (q := 331) hx (dc kL_paid_2 42 rfl) ff_L_0 lk_L_10 rfl (fun v38 => ?_)
                      refine j_iconst (q := 332) (v := (1 : Int32)) hx (dc kL_paid_2 43 rfl) (by decide) rfl ?_
                      refine w_cVIW (q := 335) (As := [.int (1 : Int32)]) (st := []) hx (dc kL_paid_2 44 rfl) cf11 (by decide) rfl (cI _ my_X11_worlds lm_L_266 (by decide)) vs_X11_worlds rfl (fun u hu => sX11_worlds _ _ _ _ _ _ hu) (fun e => ite_ne (by unfold mX11_worlds at e; exact e)) (Nat.zero_le _) rfl (fun v39 h40 => ?_)
                      refine j_aload_n (q := 336) hx (dc kL_paid_2 45 rfl) rfl 1 rfl rfl ?_
                      refine w_gR (q := 339) hx (dc kL_paid_2 46 rfl) ff_L_0 lk_L_10 rfl (fun v41 => ?_)
                      refine j_iconst (q := 340) (v := (0 : Int32)) hx (dc kL_paid_2 47 rfl) (by decide) rfl ?_
                      refine w_cVIW (q := 343) (As := [.int (0 : Int32)]) (st := [.int v39]) hx (dc kL_paid_2 48 rfl) cf11 (by decide) rfl (cI _ my_X11_worlds lm_L_266 (by decide)) vs_X11_worlds rfl (fun u hu => sX11_worlds _ _ _ _ _ _ hu) (fun e => ite_ne (by unfold mX11_worlds at e; exact e)) (sum_le (sum_I sum_nil) (by decide)) rfl (fun v42 h43 => ?_)
                      refine j_icmp_gt (q := 346) (tgt := 358) hx (dc kL_paid_2 49 rfl) (by decide) Iff.rfl rfl ?_ ?_
                      · refine j_iconst (q := 359) (v := (0 : Int32)) hx (dc kL_paid_2 56 rfl) (by decide) rfl ?_
                        exact r_cW hx (Or.inl rfl) hR (dc kL_paid_2 57 rfl)
                      · refine j_aload_n (q := 347) hx (dc kL_paid_2 50 rfl) rfl 1 rfl rfl ?_
                        refine w_gR (q := 350) hx (dc kL_paid_2 51 rfl) ff_L_0 lk_L_10 rfl (fun v44 => ?_)
                        refine j_iconst (q := 351) (v := (1 : Int32)) hx (dc kL_paid_2 52 rfl) (by decide) rfl ?_
                        refine w_cVIW (q := 354) (As := [.int (1 : Int32)]) (st := []) hx (dc kL_paid_2 53 rfl) cf11 (by decide) rfl (cI _ my_X11_worlds lm_L_266 (by decide)) vs_X11_worlds rfl (fun u hu => sX11_worlds _ _ _ _ _ _ hu) (fun e => ite_ne (by unfold mX11_worlds at e; exact e)) (Nat.zero_le _) rfl (fun v45 h46 => ?_)
                        refine j_iconst (q := 355) (v := (1 : Int32)) hx (dc kL_paid_2 54 rfl) (by decide) rfl ?_
                        refine j_icmp_geS (q := 358) (tgt := 360) hx (dc kL_paid_2 55 rfl) (by decide) rfl ?_ ?_
                        · refine j_aload_n (q := 361) hx (dc kL_paid_2 58 rfl) rfl 1 rfl rfl ?_
                          refine j_iconst (q := 362) (v := (1 : Int32)) hx (dc kL_paid_2 59 rfl) (by decide) rfl ?_
                          refine j_aload_n (q := 363) hx (dc kL_paid_2 60 rfl) rfl 1 rfl rfl ?_
                          refine w_gR (q := 366) hx (dc kL_paid_2 61 rfl) ff_L_0 lk_L_10 rfl (fun v47 => ?_)
                          refine j_iconst (q := 367) (v := (2 : Int32)) hx (dc kL_paid_2 62 rfl) (by decide) rfl ?_
                          refine w_cVIW (q := 370) (As := [.int (2 : Int32)]) (st := [.int (1 : Int32), vR x.2.2.2 x0]) hx (dc kL_paid_2 63 rfl) cf11 (by decide) rfl (cI _ my_X11_count lm_L_251 (by decide)) vs_X11_count rfl (fun u hu => sX11_count _ _ _ _ _ _ hu) (fun e => ite_ne (by unfold mX11_count at e; exact e)) (sum_le (sum_I (sum_R sum_nil)) (by decide)) rfl (fun v48 h49 => ?_)
                          refine j_ishl (q := 371) hx (dc kL_paid_3 0 rfl) rfl ?_
                          refine w_cVIW (q := 374) (As := [.int ((1 : Int32) <<< (v48 &&& 31))]) (st := []) hx (dc kL_paid_3 1 rfl) cf15 (by decide) rfl (cI _ my_L_draw lm_L_75 (by decide)) vs_L_draw rfl (fun u hu => sL_draw _ _ _ _ _ _ hu) (fun e => ite_ne (by unfold mL_draw at e; exact e)) (Nat.zero_le _) rfl (fun v50 h51 => ?_)
                          refine j_istore (q := 376) (i := 9) (l2 := [(0, vR x.2.2.2 x0)]) hx (dc kL_paid_3 2 rfl) (hn 9 (by decide)) [1] rfl ⟨⟨show (0 : Nat) ≠ 9 by decide, Or.inl (show (0 : Nat) + 1 ≠ 9 by decide)⟩, trivial⟩ rfl ?_
                          refine j_iload (q := 378) hx (dc kL_paid_3 3 rfl) 0 rfl rfl ?_
                          refine j_aload_n (q := 379) hx (dc kL_paid_3 4 rfl) rfl 1 rfl rfl ?_
                          refine j_sipush (q := 382) (v := (256 : Int32)) hx (dc kL_paid_3 5 rfl) (by decide) rfl ?_
                          refine w_cVIW (q := 385) (As := [.int (256 : Int32)]) (st := [.int v50]) hx (dc kL_paid_3 6 rfl) cf15 (by decide) rfl (cI _ my_L_draw lm_L_75 (by decide)) vs_L_draw rfl (fun u hu => sL_draw _ _ _ _ _ _ hu) (fun e => ite_ne (by unfold mL_draw at e; exact e)) (sum_le (sum_I sum_nil) (by decide)) rfl (fun v52 h53 => ?_)
                          refine j_iand (q := 386) hx (dc kL_paid_3 7 rfl) rfl ?_
                          refine j_istore (q := 388) (i := 10) (l2 := [(9, .int v50), (0, vR x.2.2.2 x0)]) hx (dc kL_paid_3 8 rfl) (hn 10 (by decide)) [0, 1] rfl ⟨⟨show (9 : Nat) ≠ 10 by decide, Or.inr rfl⟩, ⟨⟨show (0 : Nat) ≠ 10 by decide, Or.inl (show (0 : Nat) + 1 ≠ 10 by decide)⟩, trivial⟩⟩ rfl ?_
                          refine j_aload_n (q := 389) hx (dc kL_paid_3 9 rfl) rfl 2 rfl rfl ?_
                          refine w_gR (q := 392) hx (dc kL_paid_3 10 rfl) ff_L_0 lk_L_10 rfl (fun v54 => ?_)
                          refine j_iload (q := 394) hx (dc kL_paid_3 11 rfl) 1 rfl rfl ?_
                          refine w_cVIW (q := 397) (As := [.int v50]) (st := []) hx (dc kL_paid_3 12 rfl) cf11 (by decide) rfl (cI _ my_X11_together lm_L_363 (by decide)) vs_X11_together rfl (fun u hu => sX11_together _ _ _ _ _ _ hu) (fun e => ite_ne (by unfold mX11_together at e; exact e)) (Nat.zero_le _) rfl (fun v55 h56 => ?_)
                          refine j_if_eq (q := 400) (tgt := 413) hx (dc kL_paid_3 13 rfl) (by decide) Iff.rfl rfl ?_ ?_
                          · refine j_iconst (q := 414) (v := (1 : Int32)) hx (dc kL_paid_3 20 rfl) (by decide) rfl ?_
                            refine j_goto (q := 418) hx (dc kL_paid_3 21 rfl) (by decide) ?_
                            exact r_cW hx (Or.inr rfl) hR (dc kL_paid_3 23 rfl)
                          · refine j_aload_n (q := 401) hx (dc kL_paid_3 14 rfl) rfl 2 rfl rfl ?_
                            refine w_gR (q := 404) hx (dc kL_paid_3 15 rfl) ff_L_0 lk_L_10 rfl (fun v57 => ?_)
                            refine j_iload (q := 406) hx (dc kL_paid_3 16 rfl) 0 rfl rfl ?_
                            refine w_cVIW (q := 409) (As := [.int (v50 &&& v52)]) (st := []) hx (dc kL_paid_3 17 rfl) cf11 (by decide) rfl (cI _ my_X11_together lm_L_363 (by decide)) vs_X11_together rfl (fun u hu => sX11_together _ _ _ _ _ _ hu) (fun e => ite_ne (by unfold mX11_together at e; exact e)) (Nat.zero_le _) rfl (fun v58 h59 => ?_)
                            refine j_iconst (q := 410) (v := (1 : Int32)) hx (dc kL_paid_3 18 rfl) (by decide) rfl ?_
                            refine j_icmp_neS (q := 413) (tgt := 417) hx (dc kL_paid_3 19 rfl) (by decide) rfl ?_ ?_
                            · refine j_iconst (q := 418) (v := (0 : Int32)) hx (dc kL_paid_3 22 rfl) (by decide) rfl ?_
                              exact r_cW hx (Or.inl rfl) hR (dc kL_paid_3 23 rfl)
                            · refine j_iconst (q := 414) (v := (1 : Int32)) hx (dc kL_paid_3 20 rfl) (by decide) rfl ?_
                              refine j_goto (q := 418) hx (dc kL_paid_3 21 rfl) (by decide) ?_
                              exact r_cW hx (Or.inr rfl) hR (dc kL_paid_3 23 rfl)
                        · refine j_iconst (q := 359) (v := (0 : Int32)) hx (dc kL_paid_2 56 rfl) (by decide) rfl ?_
                          exact r_cW hx (Or.inl rfl) hR (dc kL_paid_2 57 rfl)
      · refine j_iload (q := 171) hx (dc kL_paid_1 25 rfl) 4 rfl rfl ?_
        refine j_aload_n (q := 172) hx (dc kL_paid_1 26 rfl) rfl 0 rfl rfl ?_
        refine w_gR (q := 175) hx (dc kL_paid_1 27 rfl) ff_L_0 lk_L_10 rfl (fun v60 => ?_)
        refine j_iload (q := 177) hx (dc kL_paid_1 28 rfl) 5 rfl rfl ?_
        refine j_bipush (q := 179) (v := (9 : Int32)) hx (dc kL_paid_1 29 rfl) (by decide) rfl ?_
        refine w_cVIW (q := 182) (As := [.int x7, .int (9 : Int32)]) (st := [.int x6]) hx (dc kL_paid_1 30 rfl) cf11 (by decide) rfl (cI _ my_X11_of lm_L_253 (by decide)) vs_X11_of rfl (fun u hu => sX11_of _ _ _ _ _ _ _ hu) (fun e => ite_ne (by unfold mX11_of at e; exact e)) (sum_le (sum_I sum_nil) (by decide)) rfl (fun v61 h62 => ?_)
        refine j_if_neS (q := 185) (tgt := 192) hx (dc kL_paid_1 31 rfl) (by decide) rfl ?_ ?_
        · refine j_iconst (q := 193) (v := (0 : Int32)) hx (dc kL_paid_1 36 rfl) (by decide) rfl ?_
          exact j_sub [0, 1, 2, 3, 5] rfl (hb193 x0 x1 x2 x4 x7 x6 (0 : Int32) h62)
        · refine j_iconst (q := 186) (v := (1 : Int32)) hx (dc kL_paid_1 32 rfl) (by decide) rfl ?_
          refine j_iload (q := 188) hx (dc kL_paid_1 33 rfl) 5 rfl rfl ?_
          refine j_ishl (q := 189) hx (dc kL_paid_1 34 rfl) rfl ?_
          refine j_goto (q := 193) hx (dc kL_paid_1 35 rfl) (by decide) ?_
          exact j_sub [0, 1, 2, 3, 5] rfl (hb193 x0 x1 x2 x4 x7 x6 ((1 : Int32) <<< (x7 &&& 31)) h62)
    exact j_loop (S := (Int32 × Int32 × Hp)) (lvf := fun s => [(0, vR x.2.2.2 x0), (1, .int x1), (2, .int x2), (4, .int x4), (6, .int s.1), (7, .int s.2.1)]) (hpf := fun s => s.2.2) (f := (fun s : (Int32 × Int32 × Hp) => mL_paid_l156f x0 x1 x2 x4 s.1 s.2.1 s.2.2)) (fun s => hB s.1 s.2.1 s.2.2) (x6, x7, h)
  have hb21 : ∀ (x0 : Nat) (x1 : Int32) (x2 : Int32) (x3 : Int32) (x4 : Int32) (x5 : Int32) (x6 : Int32) (h : Hp), J x 21 [(0, vR x.2.2.2 x0), (1, .int x1), (2, .int x2), (3, .int x3), (4, .int x4), (5, .int x5), (6, .int x6)] [] h (mL_paid_l21 x0 x1 x2 x3 x4 x5 x6 h) (fun r => r = u) := by
    intro x0 x1 x2 x3 x4 x5 x6 h
    have hB : ∀ (x1 : Int32) (x2 : Int32) (x4 : Int32) (x5 : Int32) (x6 : Int32) (h : Hp), J x 21 [(0, vR x.2.2.2 x0), (1, .int x1), (2, .int x2), (3, .int x3), (4, .int x4), (5, .int x5), (6, .int x6)] [] h (mL_paid_l21f x0 x3 x1 x2 x4 x5 x6 h) (TLo (S := (Int32 × Int32 × Int32 × Int32 × Int32 × Hp)) x 21 (fun s => [(0, vR x.2.2.2 x0), (1, .int s.1), (2, .int s.2.1), (3, .int x3), (4, .int s.2.2.1), (5, .int s.2.2.2.1), (6, .int s.2.2.2.2.1)]) [] (fun s => s.2.2.2.2.2) (fun r => r = u)) := by
      intro x1 x2 x4 x5 x6 h
      have hb114 : ∀ (x0 : Nat) (x1 : Int32) (x2 : Int32) (x3 : Int32) (x4 : Int32) (x5 : Int32) (x6 : Int32) (x7 : Int32) (x8 : Int32) (h : Hp), J x 114 [(0, vR x.2.2.2 x0), (1, .int x1), (2, .int x2), (3, .int x3), (4, .int x4), (5, .int x5), (6, .int x6), (7, .int x7), (8, .int x8)] [] h (mL_paid_l114 x0 x1 x2 x3 x4 x5 x6 x7 x8 h) (TLo (S := (Int32 × Int32 × Int32 × Int32 × Int32 × Hp)) x 21 (fun s => [(0, vR x.2.2.2 x0), (1, .int s.1), (2, .int s.2.1), (3, .int x3), (4, .int s.2.2.1), (5, .int s.2.2.2.1), (6, .int s.2.2.2.2.1)]) [] (fun s => s.2.2.2.2.2) (fun r => r = u)) := by
        intro x0 x1 x2 x3 x4 x5 x6 x7 x8 h
        have hB : ∀ (x8 : Int32) (h : Hp), J x 114 [(0, vR x.2.2.2 x0), (1, .int x1), (2, .int x2), (3, .int x3), (4, .int x4), (5, .int x5), (6, .int x6), (7, .int x7), (8, .int x8)] [] h (mL_paid_l114f x0 x1 x2 x3 x4 x5 x6 x7 x8 h) (TLo (S := (Int32 × Hp)) x 114 (fun s => [(0, vR x.2.2.2 x0), (1, .int x1), (2, .int x2), (3, .int x3), (4, .int x4), (5, .int x5), (6, .int x6), (7, .int x7), (8, .int s.1)]) [] (fun s => s.2) (TLo (S := (Int32 × Int32 × Int32 × Int32 × Int32 × Hp)) x 21 (fun s => [(0, vR x.2.2.2 x0), (1, .int s.1), (2, .int s.2.1), (3, .int x3), (4, .int s.2.2.1), (5, .int s.2.2.2.1), (6, .int s.2.2.2.2.1)]) [] (fun s => s.2.2.2.2.2) (fun r => r = u))) := by
          intro x8 h
          unfold mL_paid_l114f
          refine j_iload (q := 116) hx (dc kL_paid_0 63 rfl) 8 rfl rfl ?_
          refine j_iload (q := 118) hx (dc kL_paid_1 0 rfl) 6 rfl rfl ?_
          refine j_icmp_geS (q := 121) (tgt := 144) hx (dc kL_paid_1 1 rfl) (by decide) rfl ?_ ?_
          · refine j_exit ?_
            refine j_iinc (q := 147) (l2 := [(0, vR x.2.2.2 x0), (1, .int x1), (2, .int x2), (3, .int x3), (4, .int x4), (5, .int x5)]) hx (dc kL_paid_1 13 rfl) 6 rfl (v := (1 : Int32)) (by decide) (hn 6 (by decide)) [0, 1, 2, 3, 4, 5] rfl ⟨⟨show (0 : Nat) ≠ 6 by decide, Or.inl (show (0 : Nat) + 1 ≠ 6 by decide)⟩, ⟨⟨show (1 : Nat) ≠ 6 by decide, Or.inl (show (1 : Nat) + 1 ≠ 6 by decide)⟩, ⟨⟨show (2 : Nat) ≠ 6 by decide, Or.inl (show (2 : Nat) + 1 ≠ 6 by decide)⟩, ⟨⟨show (3 : Nat) ≠ 6 by decide, Or.inl (show (3 : Nat) + 1 ≠ 6 by decide)⟩, ⟨⟨show (4 : Nat) ≠ 6 by decide, Or.inl (show (4 : Nat) + 1 ≠ 6 by decide)⟩, ⟨⟨show (5 : Nat) ≠ 6 by decide, Or.inr rfl⟩, trivial⟩⟩⟩⟩⟩⟩ rfl ?_
            refine j_goto (q := 21) hx (dc kL_paid_1 14 rfl) (by decide) ?_
            exact j_back [1, 2, 3, 4, 5, 6, 0] (x1, x2, x4, x5, (x6 + (1 : Int32)), h) rfl rfl
          · refine j_aload_n (q := 122) hx (dc kL_paid_1 2 rfl) rfl 0 rfl rfl ?_
            refine w_gR (q := 125) hx (dc kL_paid_1 3 rfl) ff_L_0 lk_L_10 rfl (fun v80 => ?_)
            refine j_iload (q := 127) hx (dc kL_paid_1 4 rfl) 8 rfl rfl ?_
            refine j_iconst (q := 128) (v := (0 : Int32)) hx (dc kL_paid_1 5 rfl) (by decide) rfl ?_
            refine w_cVIW (q := 131) (As := [.int x8, .int (0 : Int32)]) (st := []) hx (dc kL_paid_1 6 rfl) cf11 (by decide) rfl (cI _ my_X11_outcome lm_L_360 (by decide)) vs_X11_outcome rfl (fun u hu => sX11_outcome _ _ _ _ _ _ _ hu) (fun e => ite_ne (by unfold mX11_outcome at e; exact e)) (Nat.zero_le _) rfl (fun v81 h82 => ?_)
            refine j_iload (q := 133) hx (dc kL_paid_1 7 rfl) 7 rfl rfl ?_
            refine j_icmp_neS (q := 136) (tgt := 138) hx (dc kL_paid_1 8 rfl) (by decide) rfl ?_ ?_
            · refine j_iinc (q := 141) (l2 := [(0, vR x.2.2.2 x0), (1, .int x1), (2, .int x2), (3, .int x3), (4, .int x4), (5, .int x5), (6, .int x6), (7, .int x7)]) hx (dc kL_paid_1 11 rfl) 8 rfl (v := (1 : Int32)) (by decide) (hn 8 (by decide)) [0, 1, 2, 3, 4, 5, 6, 7] rfl ⟨⟨show (0 : Nat) ≠ 8 by decide, Or.inl (show (0 : Nat) + 1 ≠ 8 by decide)⟩, ⟨⟨show (1 : Nat) ≠ 8 by decide, Or.inl (show (1 : Nat) + 1 ≠ 8 by decide)⟩, ⟨⟨show (2 : Nat) ≠ 8 by decide, Or.inl (show (2 : Nat) + 1 ≠ 8 by decide)⟩, ⟨⟨show (3 : Nat) ≠ 8 by decide, Or.inl (show (3 : Nat) + 1 ≠ 8 by decide)⟩, ⟨⟨show (4 : Nat) ≠ 8 by decide, Or.inl (show (4 : Nat) + 1 ≠ 8 by decide)⟩, ⟨⟨show (5 : Nat) ≠ 8 by decide, Or.inl (show (5 : Nat) + 1 ≠ 8 by decide)⟩, ⟨⟨show (6 : Nat) ≠ 8 by decide, Or.inl (show (6 : Nat) + 1 ≠ 8 by decide)⟩, ⟨⟨show (7 : Nat) ≠ 8 by decide, Or.inr rfl⟩, trivial⟩⟩⟩⟩⟩⟩⟩⟩ rfl ?_
              refine j_goto (q := 114) hx (dc kL_paid_1 12 rfl) (by decide) ?_
              exact j_back [1, 2, 3, 4, 5, 6, 7, 8, 0] ((x8 + (1 : Int32)), h82) rfl rfl
            · refine j_exit ?_
              refine j_exit ?_
              refine j_iconst (q := 137) (v := (0 : Int32)) hx (dc kL_paid_1 9 rfl) (by decide) rfl ?_
              exact r_cW hx (Or.inl rfl) hR (dc kL_paid_1 10 rfl)
        exact j_loop (S := (Int32 × Hp)) (lvf := fun s => [(0, vR x.2.2.2 x0), (1, .int x1), (2, .int x2), (3, .int x3), (4, .int x4), (5, .int x5), (6, .int x6), (7, .int x7), (8, .int s.1)]) (hpf := fun s => s.2) (f := (fun s : (Int32 × Hp) => mL_paid_l114f x0 x1 x2 x3 x4 x5 x6 x7 s.1 s.2)) (fun s => hB s.1 s.2) (x8, h)
      unfold mL_paid_l21f
      refine j_iload (q := 23) hx (dc kL_paid_0 14 rfl) 6 rfl rfl ?_
      refine j_iload_n (q := 24) hx (dc kL_paid_0 15 rfl) rfl 3 rfl rfl ?_
      refine j_icmp_geS (q := 27) (tgt := 150) hx (dc kL_paid_0 16 rfl) (by decide) rfl ?_ ?_
      · refine j_exit ?_
        refine j_iconst (q := 151) (v := (0 : Int32)) hx (dc kL_paid_1 15 rfl) (by decide) rfl ?_
        refine j_istore (q := 153) (i := 6) (l2 := [(0, vR x.2.2.2 x0), (1, .int x1), (2, .int x2), (4, .int x4)]) hx (dc kL_paid_1 16 rfl) (hn 6 (by decide)) [0, 1, 2, 4] rfl ⟨⟨show (0 : Nat) ≠ 6 by decide, Or.inl (show (0 : Nat) + 1 ≠ 6 by decide)⟩, ⟨⟨show (1 : Nat) ≠ 6 by decide, Or.inl (show (1 : Nat) + 1 ≠ 6 by decide)⟩, ⟨⟨show (2 : Nat) ≠ 6 by decide, Or.inl (show (2 : Nat) + 1 ≠ 6 by decide)⟩, ⟨⟨show (4 : Nat) ≠ 6 by decide, Or.inl (show (4 : Nat) + 1 ≠ 6 by decide)⟩, trivial⟩⟩⟩⟩ rfl ?_
        refine j_iconst (q := 154) (v := (0 : Int32)) hx (dc kL_paid_1 17 rfl) (by decide) rfl ?_
        refine j_istore (q := 156) (i := 7) (l2 := [(6, .int (0 : Int32)), (0, vR x.2.2.2 x0), (1, .int x1), (2, .int x2), (4, .int x4)]) hx (dc kL_paid_1 18 rfl) (hn 7 (by decide)) [0, 1, 2, 3, 4] rfl ⟨⟨show (6 : Nat) ≠ 7 by decide, Or.inr rfl⟩, ⟨⟨show (0 : Nat) ≠ 7 by decide, Or.inl (show (0 : Nat) + 1 ≠ 7 by decide)⟩, ⟨⟨show (1 : Nat) ≠ 7 by decide, Or.inl (show (1 : Nat) + 1 ≠ 7 by decide)⟩, ⟨⟨show (2 : Nat) ≠ 7 by decide, Or.inl (show (2 : Nat) + 1 ≠ 7 by decide)⟩, ⟨⟨show (4 : Nat) ≠ 7 by decide, Or.inl (show (4 : Nat) + 1 ≠ 7 by decide)⟩, trivial⟩⟩⟩⟩⟩ rfl ?_
        exact j_sub [2, 3, 4, 5, 1, 0] rfl (hb156 x0 x1 x2 x4 (0 : Int32) (0 : Int32) h)
      · refine j_aload_n (q := 28) hx (dc kL_paid_0 17 rfl) rfl 0 rfl rfl ?_
        refine w_gR (q := 31) hx (dc kL_paid_0 18 rfl) ff_L_0 lk_L_10 rfl (fun v63 => ?_)
        refine j_iload (q := 33) hx (dc kL_paid_0 19 rfl) 6 rfl rfl ?_
        refine j_iconst (q := 34) (v := (0 : Int32)) hx (dc kL_paid_0 20 rfl) (by decide) rfl ?_
        refine w_cVIW (q := 37) (As := [.int x6, .int (0 : Int32)]) (st := []) hx (dc kL_paid_0 21 rfl) cf11 (by decide) rfl (cI _ my_X11_outcome lm_L_360 (by decide)) vs_X11_outcome rfl (fun u hu => sX11_outcome _ _ _ _ _ _ _ hu) (fun e => ite_ne (by unfold mX11_outcome at e; exact e)) (Nat.zero_le _) rfl (fun v64 h65 => ?_)
        refine j_istore (q := 39) (i := 7) (l2 := [(0, vR x.2.2.2 x0), (1, .int x1), (2, .int x2), (3, .int x3), (4, .int x4), (5, .int x5), (6, .int x6)]) hx (dc kL_paid_0 22 rfl) (hn 7 (by decide)) [0, 1, 2, 3, 4, 5, 6] rfl ⟨⟨show (0 : Nat) ≠ 7 by decide, Or.inl (show (0 : Nat) + 1 ≠ 7 by decide)⟩, ⟨⟨show (1 : Nat) ≠ 7 by decide, Or.inl (show (1 : Nat) + 1 ≠ 7 by decide)⟩, ⟨⟨show (2 : Nat) ≠ 7 by decide, Or.inl (show (2 : Nat) + 1 ≠ 7 by decide)⟩, ⟨⟨show (3 : Nat) ≠ 7 by decide, Or.inl (show (3 : Nat) + 1 ≠ 7 by decide)⟩, ⟨⟨show (4 : Nat) ≠ 7 by decide, Or.inl (show (4 : Nat) + 1 ≠ 7 by decide)⟩, ⟨⟨show (5 : Nat) ≠ 7 by decide, Or.inl (show (5 : Nat) + 1 ≠ 7 by decide)⟩, ⟨⟨show (6 : Nat) ≠ 7 by decide, Or.inr rfl⟩, trivial⟩⟩⟩⟩⟩⟩⟩ rfl ?_
        refine j_iload_n (q := 40) hx (dc kL_paid_0 23 rfl) rfl 2 rfl rfl ?_
        refine j_aload_n (q := 41) hx (dc kL_paid_0 24 rfl) rfl 1 rfl rfl ?_
        refine w_gR (q := 44) hx (dc kL_paid_0 25 rfl) ff_L_0 lk_L_10 rfl (fun v66 => ?_)
        refine j_iload (q := 46) hx (dc kL_paid_0 26 rfl) 7 rfl rfl ?_
        refine j_iconst (q := 47) (v := (1 : Int32)) hx (dc kL_paid_0 27 rfl) (by decide) rfl ?_
        refine w_cVIW (q := 50) (As := [.int x6, .int (1 : Int32)]) (st := [.int x1]) hx (dc kL_paid_0 28 rfl) cf11 (by decide) rfl (cI _ my_X11_outcome lm_L_360 (by decide)) vs_X11_outcome rfl (fun u hu => sX11_outcome _ _ _ _ _ _ _ hu) (fun e => ite_ne (by unfold mX11_outcome at e; exact e)) (sum_le (sum_I sum_nil) (by decide)) rfl (fun v67 h68 => ?_)
        refine j_iadd (q := 51) hx (dc kL_paid_0 29 rfl) rfl ?_
        refine j_istore_n (q := 52) (i := 1) (l2 := [(7, .int v64), (0, vR x.2.2.2 x0), (2, .int x2), (3, .int x3), (4, .int x4), (5, .int x5), (6, .int x6)]) hx (dc kL_paid_0 30 rfl) rfl (hn 1 (by decide)) [0, 1, 3, 4, 5, 6, 7] rfl ⟨⟨show (7 : Nat) ≠ 1 by decide, Or.inl (show (7 : Nat) + 1 ≠ 1 by decide)⟩, ⟨⟨show (0 : Nat) ≠ 1 by decide, Or.inr (vR_cat _ _)⟩, ⟨⟨show (2 : Nat) ≠ 1 by decide, Or.inl (show (2 : Nat) + 1 ≠ 1 by decide)⟩, ⟨⟨show (3 : Nat) ≠ 1 by decide, Or.inl (show (3 : Nat) + 1 ≠ 1 by decide)⟩, ⟨⟨show (4 : Nat) ≠ 1 by decide, Or.inl (show (4 : Nat) + 1 ≠ 1 by decide)⟩, ⟨⟨show (5 : Nat) ≠ 1 by decide, Or.inl (show (5 : Nat) + 1 ≠ 1 by decide)⟩, ⟨⟨show (6 : Nat) ≠ 1 by decide, Or.inl (show (6 : Nat) + 1 ≠ 1 by decide)⟩, trivial⟩⟩⟩⟩⟩⟩⟩ rfl ?_
        refine j_iload_n (q := 53) hx (dc kL_paid_0 31 rfl) rfl 3 rfl rfl ?_
        refine j_iload (q := 55) hx (dc kL_paid_0 32 rfl) 1 rfl rfl ?_
        refine j_ior (q := 56) hx (dc kL_paid_0 33 rfl) rfl ?_
        refine j_istore_n (q := 57) (i := 2) (l2 := [(1, .int (x1 + v67)), (7, .int v64), (0, vR x.2.2.2 x0), (3, .int x3), (4, .int x4), (5, .int x5), (6, .int x6)]) hx (dc kL_paid_0 34 rfl) rfl (hn 2 (by decide)) [0, 1, 2, 4, 5, 6, 7] rfl ⟨⟨show (1 : Nat) ≠ 2 by decide, Or.inr rfl⟩, ⟨⟨show (7 : Nat) ≠ 2 by decide, Or.inl (show (7 : Nat) + 1 ≠ 2 by decide)⟩, ⟨⟨show (0 : Nat) ≠ 2 by decide, Or.inl (show (0 : Nat) + 1 ≠ 2 by decide)⟩, ⟨⟨show (3 : Nat) ≠ 2 by decide, Or.inl (show (3 : Nat) + 1 ≠ 2 by decide)⟩, ⟨⟨show (4 : Nat) ≠ 2 by decide, Or.inl (show (4 : Nat) + 1 ≠ 2 by decide)⟩, ⟨⟨show (5 : Nat) ≠ 2 by decide, Or.inl (show (5 : Nat) + 1 ≠ 2 by decide)⟩, ⟨⟨show (6 : Nat) ≠ 2 by decide, Or.inl (show (6 : Nat) + 1 ≠ 2 by decide)⟩, trivial⟩⟩⟩⟩⟩⟩⟩ rfl ?_
        refine j_iload (q := 59) hx (dc kL_paid_0 35 rfl) 5 rfl rfl ?_
        refine j_iload (q := 61) hx (dc kL_paid_0 36 rfl) 2 rfl rfl ?_
        refine w_cSIR (q := 64) (As := [.int v64]) (st := [.int x4]) hx (dc kL_paid_0 37 rfl) (cI _ my_J6_bitCount_0f7a4 lm_L_343 (by decide)) st_J6_bitCount_0f7a4 rfl (fun u hu => sJ6_bitCount_0f7a4 _ _ _ _ _ hu) (sum_le (sum_I sum_nil) (by decide)) rfl (fun v69 => ?_)
        refine w_mmax (q := 67) hx (dc kL_paid_0 38 rfl) lm_L_44 ms_mmax ms_init mc_mmax (by decide) (Nat.zero_le _) rfl ?_
        refine j_istore (q := 69) (i := 4) (l2 := [(2, .int (x2 ||| v64)), (1, .int (x1 + v67)), (7, .int v64), (0, vR x.2.2.2 x0), (3, .int x3), (5, .int x5), (6, .int x6)]) hx (dc kL_paid_0 39 rfl) (hn 4 (by decide)) [0, 1, 2, 3, 4, 6, 7] rfl ⟨⟨show (2 : Nat) ≠ 4 by decide, Or.inl (show (2 : Nat) + 1 ≠ 4 by decide)⟩, ⟨⟨show (1 : Nat) ≠ 4 by decide, Or.inl (show (1 : Nat) + 1 ≠ 4 by decide)⟩, ⟨⟨show (7 : Nat) ≠ 4 by decide, Or.inl (show (7 : Nat) + 1 ≠ 4 by decide)⟩, ⟨⟨show (0 : Nat) ≠ 4 by decide, Or.inl (show (0 : Nat) + 1 ≠ 4 by decide)⟩, ⟨⟨show (3 : Nat) ≠ 4 by decide, Or.inr rfl⟩, ⟨⟨show (5 : Nat) ≠ 4 by decide, Or.inl (show (5 : Nat) + 1 ≠ 4 by decide)⟩, ⟨⟨show (6 : Nat) ≠ 4 by decide, Or.inl (show (6 : Nat) + 1 ≠ 4 by decide)⟩, trivial⟩⟩⟩⟩⟩⟩⟩ rfl ?_
        refine j_aload_n (q := 70) hx (dc kL_paid_0 40 rfl) rfl 4 rfl rfl ?_
        refine w_gR (q := 73) hx (dc kL_paid_0 41 rfl) ff_L_0 lk_L_10 rfl (fun v71 => ?_)
        refine j_iload (q := 75) hx (dc kL_paid_0 42 rfl) 7 rfl rfl ?_
        refine j_iconst (q := 76) (v := (2 : Int32)) hx (dc kL_paid_0 43 rfl) (by decide) rfl ?_
        refine w_cVIW (q := 79) (As := [.int x6, .int (2 : Int32)]) (st := []) hx (dc kL_paid_0 44 rfl) cf11 (by decide) rfl (cI _ my_X11_outcome lm_L_360 (by decide)) vs_X11_outcome rfl (fun u hu => sX11_outcome _ _ _ _ _ _ _ hu) (fun e => ite_ne (by unfold mX11_outcome at e; exact e)) (Nat.zero_le _) rfl (fun v72 h73 => ?_)
        refine j_iload (q := 81) hx (dc kL_paid_0 45 rfl) 6 rfl rfl ?_
        refine j_icmp_leS (q := 84) (tgt := 97) hx (dc kL_paid_0 46 rfl) (by decide) rfl ?_ ?_
        · refine j_exit ?_
          refine j_iconst (q := 98) (v := (0 : Int32)) hx (dc kL_paid_0 53 rfl) (by decide) rfl ?_
          exact r_cW hx (Or.inl rfl) hR (dc kL_paid_0 54 rfl)
        · refine j_aload_n (q := 85) hx (dc kL_paid_0 47 rfl) rfl 4 rfl rfl ?_
          refine w_gR (q := 88) hx (dc kL_paid_0 48 rfl) ff_L_0 lk_L_10 rfl (fun v74 => ?_)
          refine j_iload (q := 90) hx (dc kL_paid_0 49 rfl) 3 rfl rfl ?_
          refine w_cVIW (q := 93) (As := [.int v64]) (st := []) hx (dc kL_paid_0 50 rfl) cf11 (by decide) rfl (cI _ my_X11_together lm_L_363 (by decide)) vs_X11_together rfl (fun u hu => sX11_together _ _ _ _ _ _ hu) (fun e => ite_ne (by unfold mX11_together at e; exact e)) (Nat.zero_le _) rfl (fun v75 h76 => ?_)
          refine j_iconst (q := 94) (v := (1 : Int32)) hx (dc kL_paid_0 51 rfl) (by decide) rfl ?_
          refine j_icmp_eq (q := 97) (tgt := 99) hx (dc kL_paid_0 52 rfl) (by decide) Iff.rfl rfl ?_ ?_
          · refine j_aload_n (q := 100) hx (dc kL_paid_0 55 rfl) rfl 4 rfl rfl ?_
            refine w_gR (q := 103) hx (dc kL_paid_0 56 rfl) ff_L_0 lk_L_10 rfl (fun v77 => ?_)
            refine j_iload (q := 105) hx (dc kL_paid_0 57 rfl) 7 rfl rfl ?_
            refine j_iconst (q := 106) (v := (2 : Int32)) hx (dc kL_paid_0 58 rfl) (by decide) rfl ?_
            refine w_cVIW (q := 109) (As := [.int x6, .int (2 : Int32)]) (st := []) hx (dc kL_paid_0 59 rfl) cf11 (by decide) rfl (cI _ my_X11_outcome lm_L_360 (by decide)) vs_X11_outcome rfl (fun u hu => sX11_outcome _ _ _ _ _ _ _ hu) (fun e => ite_ne (by unfold mX11_outcome at e; exact e)) (Nat.zero_le _) rfl (fun v78 h79 => ?_)
            refine j_istore (q := 111) (i := 5) (l2 := [(4, .int (mmax x4 v69)), (2, .int (x2 ||| v64)), (1, .int (x1 + v67)), (7, .int v64), (0, vR x.2.2.2 x0), (3, .int x3), (6, .int x6)]) hx (dc kL_paid_0 60 rfl) (hn 5 (by decide)) [0, 1, 2, 3, 4, 5, 7] rfl ⟨⟨show (4 : Nat) ≠ 5 by decide, Or.inr rfl⟩, ⟨⟨show (2 : Nat) ≠ 5 by decide, Or.inl (show (2 : Nat) + 1 ≠ 5 by decide)⟩, ⟨⟨show (1 : Nat) ≠ 5 by decide, Or.inl (show (1 : Nat) + 1 ≠ 5 by decide)⟩, ⟨⟨show (7 : Nat) ≠ 5 by decide, Or.inl (show (7 : Nat) + 1 ≠ 5 by decide)⟩, ⟨⟨show (0 : Nat) ≠ 5 by decide, Or.inl (show (0 : Nat) + 1 ≠ 5 by decide)⟩, ⟨⟨show (3 : Nat) ≠ 5 by decide, Or.inl (show (3 : Nat) + 1 ≠ 5 by decide)⟩, ⟨⟨show (6 : Nat) ≠ 5 by decide, Or.inl (show (6 : Nat) + 1 ≠ 5 by decide)⟩, trivial⟩⟩⟩⟩⟩⟩⟩ rfl ?_
            refine j_iconst (q := 112) (v := (0 : Int32)) hx (dc kL_paid_0 61 rfl) (by decide) rfl ?_
            refine j_istore (q := 114) (i := 8) (l2 := [(5, .int v78), (4, .int (mmax x4 v69)), (2, .int (x2 ||| v64)), (1, .int (x1 + v67)), (7, .int v64), (0, vR x.2.2.2 x0), (3, .int x3), (6, .int x6)]) hx (dc kL_paid_0 62 rfl) (hn 8 (by decide)) [0, 1, 2, 3, 4, 5, 6, 7] rfl ⟨⟨show (5 : Nat) ≠ 8 by decide, Or.inl (show (5 : Nat) + 1 ≠ 8 by decide)⟩, ⟨⟨show (4 : Nat) ≠ 8 by decide, Or.inl (show (4 : Nat) + 1 ≠ 8 by decide)⟩, ⟨⟨show (2 : Nat) ≠ 8 by decide, Or.inl (show (2 : Nat) + 1 ≠ 8 by decide)⟩, ⟨⟨show (1 : Nat) ≠ 8 by decide, Or.inl (show (1 : Nat) + 1 ≠ 8 by decide)⟩, ⟨⟨show (7 : Nat) ≠ 8 by decide, Or.inr rfl⟩, ⟨⟨show (0 : Nat) ≠ 8 by decide, Or.inl (show (0 : Nat) + 1 ≠ 8 by decide)⟩, ⟨⟨show (3 : Nat) ≠ 8 by decide, Or.inl (show (3 : Nat) + 1 ≠ 8 by decide)⟩, ⟨⟨show (6 : Nat) ≠ 8 by decide, Or.inl (show (6 : Nat) + 1 ≠ 8 by decide)⟩, trivial⟩⟩⟩⟩⟩⟩⟩⟩ rfl ?_
            exact j_sub [6, 4, 3, 7, 2, 1, 8, 5, 0] rfl (hb114 x0 (x1 + v67) (x2 ||| v64) x3 (mmax x4 v69) v78 x6 v64 (0 : Int32) h79)
          · refine j_exit ?_
            refine j_iconst (q := 98) (v := (0 : Int32)) hx (dc kL_paid_0 53 rfl) (by decide) rfl ?_
            exact r_cW hx (Or.inl rfl) hR (dc kL_paid_0 54 rfl)
    exact j_loop (S := (Int32 × Int32 × Int32 × Int32 × Int32 × Hp)) (lvf := fun s => [(0, vR x.2.2.2 x0), (1, .int s.1), (2, .int s.2.1), (3, .int x3), (4, .int s.2.2.1), (5, .int s.2.2.2.1), (6, .int s.2.2.2.2.1)]) (hpf := fun s => s.2.2.2.2.2) (f := (fun s : (Int32 × Int32 × Int32 × Int32 × Int32 × Hp) => mL_paid_l21f x0 x3 s.1 s.2.1 s.2.2.1 s.2.2.2.1 s.2.2.2.2.1 s.2.2.2.2.2)) (fun s => hB s.1 s.2.1 s.2.2.1 s.2.2.2.1 s.2.2.2.2.1 s.2.2.2.2.2) (x1, x2, x4, x5, x6, h)
  unfold mL_paid
  refine J.ckd fun hck => ?_
  refine j_iconst (q := 1) (v := (0 : Int32)) hx (dc kL_paid_0 0 rfl) (by decide) rfl ?_
  refine j_istore_n (q := 2) (i := 1) (l2 := [(0, vR x.2.2.2 x0)]) hx (dc kL_paid_0 1 rfl) rfl (hn 1 (by decide)) [0] rfl ⟨⟨show (0 : Nat) ≠ 1 by decide, Or.inr (vR_cat _ _)⟩, trivial⟩ rfl ?_
  refine j_iconst (q := 3) (v := (0 : Int32)) hx (dc kL_paid_0 2 rfl) (by decide) rfl ?_
  refine j_istore_n (q := 4) (i := 2) (l2 := [(1, .int (0 : Int32)), (0, vR x.2.2.2 x0)]) hx (dc kL_paid_0 3 rfl) rfl (hn 2 (by decide)) [0, 1] rfl ⟨⟨show (1 : Nat) ≠ 2 by decide, Or.inr rfl⟩, ⟨⟨show (0 : Nat) ≠ 2 by decide, Or.inl (show (0 : Nat) + 1 ≠ 2 by decide)⟩, trivial⟩⟩ rfl ?_
  refine j_aload_n (q := 5) hx (dc kL_paid_0 4 rfl) rfl 2 rfl rfl ?_
  refine w_gR (q := 8) hx (dc kL_paid_0 5 rfl) ff_L_0 lk_L_10 rfl (fun v1 => ?_)
  refine w_cVIW (q := 11) (As := []) (st := []) hx (dc kL_paid_0 6 rfl) cf11 (by decide) rfl (cI _ my_X11_outcomes lm_L_277 (by decide)) vs_X11_outcomes rfl (fun u hu => sX11_outcomes _ _ _ _ _ hu) (fun e => ite_ne (by unfold mX11_outcomes at e; exact e)) (Nat.zero_le _) rfl (fun v2 h3 => ?_)
  refine j_istore_n (q := 12) (i := 3) (l2 := [(2, .int (0 : Int32)), (1, .int (0 : Int32)), (0, vR x.2.2.2 x0)]) hx (dc kL_paid_0 7 rfl) rfl (hn 3 (by decide)) [0, 1, 2] rfl ⟨⟨show (2 : Nat) ≠ 3 by decide, Or.inr rfl⟩, ⟨⟨show (1 : Nat) ≠ 3 by decide, Or.inl (show (1 : Nat) + 1 ≠ 3 by decide)⟩, ⟨⟨show (0 : Nat) ≠ 3 by decide, Or.inl (show (0 : Nat) + 1 ≠ 3 by decide)⟩, trivial⟩⟩⟩ rfl ?_
  refine j_iconst (q := 13) (v := (0 : Int32)) hx (dc kL_paid_0 8 rfl) (by decide) rfl ?_
  refine j_istore (q := 15) (i := 4) (l2 := [(3, .int v2), (2, .int (0 : Int32)), (1, .int (0 : Int32)), (0, vR x.2.2.2 x0)]) hx (dc kL_paid_0 9 rfl) (hn 4 (by decide)) [0, 1, 2, 3] rfl ⟨⟨show (3 : Nat) ≠ 4 by decide, Or.inr rfl⟩, ⟨⟨show (2 : Nat) ≠ 4 by decide, Or.inl (show (2 : Nat) + 1 ≠ 4 by decide)⟩, ⟨⟨show (1 : Nat) ≠ 4 by decide, Or.inl (show (1 : Nat) + 1 ≠ 4 by decide)⟩, ⟨⟨show (0 : Nat) ≠ 4 by decide, Or.inl (show (0 : Nat) + 1 ≠ 4 by decide)⟩, trivial⟩⟩⟩⟩ rfl ?_
  refine j_iconst (q := 16) (v := (-1 : Int32)) hx (dc kL_paid_0 10 rfl) (by decide) rfl ?_
  refine j_istore (q := 18) (i := 5) (l2 := [(4, .int (0 : Int32)), (3, .int v2), (2, .int (0 : Int32)), (1, .int (0 : Int32)), (0, vR x.2.2.2 x0)]) hx (dc kL_paid_0 11 rfl) (hn 5 (by decide)) [0, 1, 2, 3, 4] rfl ⟨⟨show (4 : Nat) ≠ 5 by decide, Or.inr rfl⟩, ⟨⟨show (3 : Nat) ≠ 5 by decide, Or.inl (show (3 : Nat) + 1 ≠ 5 by decide)⟩, ⟨⟨show (2 : Nat) ≠ 5 by decide, Or.inl (show (2 : Nat) + 1 ≠ 5 by decide)⟩, ⟨⟨show (1 : Nat) ≠ 5 by decide, Or.inl (show (1 : Nat) + 1 ≠ 5 by decide)⟩, ⟨⟨show (0 : Nat) ≠ 5 by decide, Or.inl (show (0 : Nat) + 1 ≠ 5 by decide)⟩, trivial⟩⟩⟩⟩⟩ rfl ?_
  refine j_iconst (q := 19) (v := (0 : Int32)) hx (dc kL_paid_0 12 rfl) (by decide) rfl ?_
  refine j_istore (q := 21) (i := 6) (l2 := [(5, .int (-1 : Int32)), (4, .int (0 : Int32)), (3, .int v2), (2, .int (0 : Int32)), (1, .int (0 : Int32)), (0, vR x.2.2.2 x0)]) hx (dc kL_paid_0 13 rfl) (hn 6 (by decide)) [0, 1, 2, 3, 4, 5] rfl ⟨⟨show (5 : Nat) ≠ 6 by decide, Or.inr rfl⟩, ⟨⟨show (4 : Nat) ≠ 6 by decide, Or.inl (show (4 : Nat) + 1 ≠ 6 by decide)⟩, ⟨⟨show (3 : Nat) ≠ 6 by decide, Or.inl (show (3 : Nat) + 1 ≠ 6 by decide)⟩, ⟨⟨show (2 : Nat) ≠ 6 by decide, Or.inl (show (2 : Nat) + 1 ≠ 6 by decide)⟩, ⟨⟨show (1 : Nat) ≠ 6 by decide, Or.inl (show (1 : Nat) + 1 ≠ 6 by decide)⟩, ⟨⟨show (0 : Nat) ≠ 6 by decide, Or.inl (show (0 : Nat) + 1 ≠ 6 by decide)⟩, trivial⟩⟩⟩⟩⟩⟩ rfl ?_
  exact j_sub [6, 5, 4, 3, 2, 1, 0] rfl (hb21 x0 (0 : Int32) (0 : Int32) v2 (0 : Int32) (-1 : Int32) (0 : Int32) h3)

set_option maxHeartbeats 4000000 in
set_option maxRecDepth 100000 in
theorem sL_pairs (l : Launch) (w : Wd) (x0 : Nat) (x1 : Int32) (x2 : Int32) (h : Hp) (u : (Int32 × Hp)) (hK : mL_pairs x0 x1 x2 h = some u) : M1 l w mi_L_pairs 7 [vR w x0, .int x1, .int x2] h u.2 (some (.int u.1)) := by
  refine M1.of (own := RL) (T := fun _ r => r = u) hK (by decide +kernel) rfl (by first | (simp only [lg_lenR, lg_lenI, lg_lenL, lg_len0]; decide) | decide) (fun x hx hnl hhf hl hw hret hnm hQ h0e => ⟨?_, rfl⟩)
  subst hw
  subst hl
  have hR : Rt x h u.2 (some (.int u.1)) ((some .boolean)) := ⟨h0e, hhf, hret, hQ⟩
  have hn : ∀ i, i < 7 → i < x.2.2.1.1.1 := fun i hi => by rw [hnl]; exact hi
  have e0 : lv_args 0 [vR x.2.2.2 x0, .int x1, .int x2] = [(0, vR x.2.2.2 x0), (1, .int x1), (2, .int x2)] := by simp only [lv_argsR, lv_argsI, lv_argsL, lv_args0]
  rw [e0]
  have hb274 : ∀ (x0 : Nat) (x1 : Int32) (t0 : Int32) (t1 : Int32) (h : Hp), J x 274 [(0, vR x.2.2.2 x0), (1, .int x1)] [.int t1, .int t0] h (mL_pairs_b274 x0 x1 t0 t1 h) (fun r => r = u) := by
    intro x0 x1 t0 t1 h
    unfold mL_pairs_b274
    refine j_icmp_neS (q := 277) (tgt := 401) hx (dc kL_pairs_2 22 rfl) (by decide) rfl ?_ ?_
    · refine j_iconst (q := 402) (v := (0 : Int32)) hx (dc kL_pairs_3 23 rfl) (by decide) rfl ?_
      exact r_cW hx (Or.inl rfl) hR (dc kL_pairs_3 24 rfl)
    · refine j_aload_n (q := 278) hx (dc kL_pairs_2 23 rfl) rfl 0 rfl rfl ?_
      refine w_gR (q := 281) hx (dc kL_pairs_2 24 rfl) ff_L_0 lk_L_10 rfl (fun v45 => ?_)
      refine j_iload_n (q := 282) hx (dc kL_pairs_2 25 rfl) rfl 1 rfl rfl ?_
      refine j_bipush (q := 284) (v := (10 : Int32)) hx (dc kL_pairs_2 26 rfl) (by decide) rfl ?_
      refine w_cVIW (q := 287) (As := [.int x1, .int (10 : Int32)]) (st := []) hx (dc kL_pairs_2 27 rfl) cf11 (by decide) rfl (cI _ my_X11_of lm_L_253 (by decide)) vs_X11_of rfl (fun u hu => sX11_of _ _ _ _ _ _ _ hu) (fun e => ite_ne (by unfold mX11_of at e; exact e)) (Nat.zero_le _) rfl (fun v46 h47 => ?_)
      refine j_iload_n (q := 288) hx (dc kL_pairs_2 28 rfl) rfl 1 rfl rfl ?_
      refine j_icmp_gt (q := 291) (tgt := 401) hx (dc kL_pairs_2 29 rfl) (by decide) Iff.rfl rfl ?_ ?_
      · refine j_iconst (q := 402) (v := (0 : Int32)) hx (dc kL_pairs_3 23 rfl) (by decide) rfl ?_
        exact r_cW hx (Or.inl rfl) hR (dc kL_pairs_3 24 rfl)
      · refine j_aload_n (q := 292) hx (dc kL_pairs_2 30 rfl) rfl 0 rfl rfl ?_
        refine w_gR (q := 295) hx (dc kL_pairs_2 31 rfl) ff_L_0 lk_L_10 rfl (fun v48 => ?_)
        refine j_aload_n (q := 296) hx (dc kL_pairs_2 32 rfl) rfl 0 rfl rfl ?_
        refine w_gR (q := 299) hx (dc kL_pairs_2 33 rfl) ff_L_0 lk_L_10 rfl (fun v49 => ?_)
        refine j_iload_n (q := 300) hx (dc kL_pairs_2 34 rfl) rfl 1 rfl rfl ?_
        refine j_bipush (q := 302) (v := (10 : Int32)) hx (dc kL_pairs_2 35 rfl) (by decide) rfl ?_
        refine w_cVIW (q := 305) (As := [.int x1, .int (10 : Int32)]) (st := [vR x.2.2.2 v48]) hx (dc kL_pairs_2 36 rfl) cf11 (by decide) rfl (cI _ my_X11_of lm_L_253 (by decide)) vs_X11_of rfl (fun u hu => sX11_of _ _ _ _ _ _ _ hu) (fun e => ite_ne (by unfold mX11_of at e; exact e)) (sum_le (sum_R sum_nil) (by decide)) rfl (fun v50 h51 => ?_)
        refine j_bipush (q := 307) (v := (10 : Int32)) hx (dc kL_pairs_2 37 rfl) (by decide) rfl ?_
        refine w_cVIW (q := 310) (As := [.int v50, .int (10 : Int32)]) (st := []) hx (dc kL_pairs_2 38 rfl) cf11 (by decide) rfl (cI _ my_X11_of lm_L_253 (by decide)) vs_X11_of rfl (fun u hu => sX11_of _ _ _ _ _ _ _ hu) (fun e => ite_ne (by unfold mX11_of at e; exact e)) (Nat.zero_le _) rfl (fun v52 h53 => ?_)
        refine j_aload_n (q := 311) hx (dc kL_pairs_2 39 rfl) rfl 0 rfl rfl ?_
        refine w_gR (q := 314) hx (dc kL_pairs_2 40 rfl) ff_L_0 lk_L_10 rfl (fun v54 => ?_)
        refine j_iload_n (q := 315) hx (dc kL_pairs_2 41 rfl) rfl 1 rfl rfl ?_
        refine j_bipush (q := 317) (v := (10 : Int32)) hx (dc kL_pairs_2 42 rfl) (by decide) rfl ?_
        refine w_cVIW (q := 320) (As := [.int x1, .int (10 : Int32)]) (st := [.int v52]) hx (dc kL_pairs_2 43 rfl) cf11 (by decide) rfl (cI _ my_X11_of lm_L_253 (by decide)) vs_X11_of rfl (fun u hu => sX11_of _ _ _ _ _ _ _ hu) (fun e => ite_ne (by unfold mX11_of at e; exact e)) (sum_le (sum_I sum_nil) (by decide)) rfl (fun v55 h56 => ?_)
        refine j_icmp_neS (q := 323) (tgt := 401) hx (dc kL_pairs_2 44 rfl) (by decide) rfl ?_ ?_
        · refine j_iconst (q := 402) (v := (0 : Int32)) hx (dc kL_pairs_3 23 rfl) (by decide) rfl ?_
          exact r_cW hx (Or.inl rfl) hR (dc kL_pairs_3 24 rfl)
        · refine j_aload_n (q := 324) hx (dc kL_pairs_2 45 rfl) rfl 0 rfl rfl ?_
          refine w_gR (q := 327) hx (dc kL_pairs_2 46 rfl) ff_L_0 lk_L_10 rfl (fun v57 => ?_)
          refine j_iload_n (q := 328) hx (dc kL_pairs_2 47 rfl) rfl 1 rfl rfl ?_
          refine j_iconst (q := 329) (v := (3 : Int32)) hx (dc kL_pairs_2 48 rfl) (by decide) rfl ?_
          refine w_cVIW (q := 332) (As := [.int x1, .int (3 : Int32)]) (st := []) hx (dc kL_pairs_2 49 rfl) cf11 (by decide) rfl (cI _ my_X11_of lm_L_253 (by decide)) vs_X11_of rfl (fun u hu => sX11_of _ _ _ _ _ _ _ hu) (fun e => ite_ne (by unfold mX11_of at e; exact e)) (Nat.zero_le _) rfl (fun v58 h59 => ?_)
          refine j_aload_n (q := 333) hx (dc kL_pairs_2 50 rfl) rfl 0 rfl rfl ?_
          refine w_gR (q := 336) hx (dc kL_pairs_2 51 rfl) ff_L_0 lk_L_10 rfl (fun v60 => ?_)
          refine j_iload_n (q := 337) hx (dc kL_pairs_2 52 rfl) rfl 1 rfl rfl ?_
          refine j_iconst (q := 338) (v := (2 : Int32)) hx (dc kL_pairs_2 53 rfl) (by decide) rfl ?_
          refine w_cVIW (q := 341) (As := [.int x1, .int (2 : Int32)]) (st := [.int v58]) hx (dc kL_pairs_2 54 rfl) cf11 (by decide) rfl (cI _ my_X11_of lm_L_253 (by decide)) vs_X11_of rfl (fun u hu => sX11_of _ _ _ _ _ _ _ hu) (fun e => ite_ne (by unfold mX11_of at e; exact e)) (sum_le (sum_I sum_nil) (by decide)) rfl (fun v61 h62 => ?_)
          refine j_icmp_gt (q := 344) (tgt := 401) hx (dc kL_pairs_2 55 rfl) (by decide) Iff.rfl rfl ?_ ?_
          · refine j_iconst (q := 402) (v := (0 : Int32)) hx (dc kL_pairs_3 23 rfl) (by decide) rfl ?_
            exact r_cW hx (Or.inl rfl) hR (dc kL_pairs_3 24 rfl)
          · refine j_aload_n (q := 345) hx (dc kL_pairs_2 56 rfl) rfl 0 rfl rfl ?_
            refine w_gR (q := 348) hx (dc kL_pairs_2 57 rfl) ff_L_0 lk_L_10 rfl (fun v63 => ?_)
            refine j_iload_n (q := 349) hx (dc kL_pairs_2 58 rfl) rfl 1 rfl rfl ?_
            refine j_iconst (q := 350) (v := (4 : Int32)) hx (dc kL_pairs_2 59 rfl) (by decide) rfl ?_
            refine w_cVIW (q := 353) (As := [.int x1, .int (4 : Int32)]) (st := []) hx (dc kL_pairs_2 60 rfl) cf11 (by decide) rfl (cI _ my_X11_of lm_L_253 (by decide)) vs_X11_of rfl (fun u hu => sX11_of _ _ _ _ _ _ _ hu) (fun e => ite_ne (by unfold mX11_of at e; exact e)) (Nat.zero_le _) rfl (fun v64 h65 => ?_)
            refine j_aload_n (q := 354) hx (dc kL_pairs_2 61 rfl) rfl 0 rfl rfl ?_
            refine w_gR (q := 357) hx (dc kL_pairs_2 62 rfl) ff_L_0 lk_L_10 rfl (fun v66 => ?_)
            refine j_iload_n (q := 358) hx (dc kL_pairs_2 63 rfl) rfl 1 rfl rfl ?_
            refine j_iconst (q := 359) (v := (1 : Int32)) hx (dc kL_pairs_3 0 rfl) (by decide) rfl ?_
            refine w_cVIW (q := 362) (As := [.int x1, .int (1 : Int32)]) (st := [.int v64]) hx (dc kL_pairs_3 1 rfl) cf11 (by decide) rfl (cI _ my_X11_of lm_L_253 (by decide)) vs_X11_of rfl (fun u hu => sX11_of _ _ _ _ _ _ _ hu) (fun e => ite_ne (by unfold mX11_of at e; exact e)) (sum_le (sum_I sum_nil) (by decide)) rfl (fun v67 h68 => ?_)
            refine j_aload_n (q := 363) hx (dc kL_pairs_3 2 rfl) rfl 0 rfl rfl ?_
            refine w_gR (q := 366) hx (dc kL_pairs_3 3 rfl) ff_L_0 lk_L_10 rfl (fun v69 => ?_)
            refine j_iload_n (q := 367) hx (dc kL_pairs_3 4 rfl) rfl 1 rfl rfl ?_
            refine j_iconst (q := 368) (v := (3 : Int32)) hx (dc kL_pairs_3 5 rfl) (by decide) rfl ?_
            refine w_cVIW (q := 371) (As := [.int x1, .int (3 : Int32)]) (st := [.int v67, .int v64]) hx (dc kL_pairs_3 6 rfl) cf11 (by decide) rfl (cI _ my_X11_of lm_L_253 (by decide)) vs_X11_of rfl (fun u hu => sX11_of _ _ _ _ _ _ _ hu) (fun e => ite_ne (by unfold mX11_of at e; exact e)) (sum_le (sum_I (sum_I sum_nil)) (by decide)) rfl (fun v70 h71 => ?_)
            refine j_iadd (q := 372) hx (dc kL_pairs_3 7 rfl) rfl ?_
            refine j_icmp_neS (q := 375) (tgt := 401) hx (dc kL_pairs_3 8 rfl) (by decide) rfl ?_ ?_
            · refine j_iconst (q := 402) (v := (0 : Int32)) hx (dc kL_pairs_3 23 rfl) (by decide) rfl ?_
              exact r_cW hx (Or.inl rfl) hR (dc kL_pairs_3 24 rfl)
            · refine j_aload_n (q := 376) hx (dc kL_pairs_3 9 rfl) rfl 0 rfl rfl ?_
              refine w_gR (q := 379) hx (dc kL_pairs_3 10 rfl) ff_L_0 lk_L_10 rfl (fun v72 => ?_)
              refine j_iload_n (q := 380) hx (dc kL_pairs_3 11 rfl) rfl 1 rfl rfl ?_
              refine j_bipush (q := 382) (v := (8 : Int32)) hx (dc kL_pairs_3 12 rfl) (by decide) rfl ?_
              refine w_cVIW (q := 385) (As := [.int x1, .int (8 : Int32)]) (st := []) hx (dc kL_pairs_3 13 rfl) cf11 (by decide) rfl (cI _ my_X11_of lm_L_253 (by decide)) vs_X11_of rfl (fun u hu => sX11_of _ _ _ _ _ _ _ hu) (fun e => ite_ne (by unfold mX11_of at e; exact e)) (Nat.zero_le _) rfl (fun v73 h74 => ?_)
              refine j_aload_n (q := 386) hx (dc kL_pairs_3 14 rfl) rfl 0 rfl rfl ?_
              refine w_gR (q := 389) hx (dc kL_pairs_3 15 rfl) ff_L_0 lk_L_10 rfl (fun v75 => ?_)
              refine j_iload_n (q := 390) hx (dc kL_pairs_3 16 rfl) rfl 1 rfl rfl ?_
              refine j_bipush (q := 392) (v := (7 : Int32)) hx (dc kL_pairs_3 17 rfl) (by decide) rfl ?_
              refine w_cVIW (q := 395) (As := [.int x1, .int (7 : Int32)]) (st := [.int v73]) hx (dc kL_pairs_3 18 rfl) cf11 (by decide) rfl (cI _ my_X11_of lm_L_253 (by decide)) vs_X11_of rfl (fun u hu => sX11_of _ _ _ _ _ _ _ hu) (fun e => ite_ne (by unfold mX11_of at e; exact e)) (sum_le (sum_I sum_nil) (by decide)) rfl (fun v76 h77 => ?_)
              refine j_iconst (q := 396) (v := (-1 : Int32)) hx (dc kL_pairs_3 19 rfl) (by decide) rfl ?_
              refine j_ixor (q := 397) hx (dc kL_pairs_3 20 rfl) rfl ?_
              refine j_iand (q := 398) hx (dc kL_pairs_3 21 rfl) rfl ?_
              refine j_if_eq (q := 401) (tgt := 403) hx (dc kL_pairs_3 22 rfl) (by decide) Iff.rfl rfl ?_ ?_
              · refine j_aload_n (q := 404) hx (dc kL_pairs_3 25 rfl) rfl 0 rfl rfl ?_
                refine w_gR (q := 407) hx (dc kL_pairs_3 26 rfl) ff_L_0 lk_L_10 rfl (fun v78 => ?_)
                refine j_iload_n (q := 408) hx (dc kL_pairs_3 27 rfl) rfl 1 rfl rfl ?_
                refine j_iconst (q := 409) (v := (0 : Int32)) hx (dc kL_pairs_3 28 rfl) (by decide) rfl ?_
                refine w_cVIR (q := 412) (As := [.int x1, .int (0 : Int32)]) (st := []) hx (dc kL_pairs_3 29 rfl) cf11 (by decide) rfl (cI _ my_X11_grown lm_L_379 (by decide)) vs_X11_grown rfl (fun u hu => sX11_grown _ _ _ _ _ _ _ hu) (fun e => ite_ne (by unfold mX11_grown at e; exact e)) (Nat.zero_le _) rfl (fun v79 => ?_)
                refine j_aload_n (q := 413) hx (dc kL_pairs_3 30 rfl) rfl 0 rfl rfl ?_
                refine w_gR (q := 416) hx (dc kL_pairs_3 31 rfl) ff_L_0 lk_L_10 rfl (fun v81 => ?_)
                refine j_iload_n (q := 417) hx (dc kL_pairs_3 32 rfl) rfl 1 rfl rfl ?_
                refine j_iconst (q := 418) (v := (0 : Int32)) hx (dc kL_pairs_3 33 rfl) (by decide) rfl ?_
                refine w_cVIW (q := 421) (As := [.int x1, .int (0 : Int32)]) (st := [.int v79]) hx (dc kL_pairs_3 34 rfl) cf11 (by decide) rfl (cI _ my_X11_of lm_L_253 (by decide)) vs_X11_of rfl (fun u hu => sX11_of _ _ _ _ _ _ _ hu) (fun e => ite_ne (by unfold mX11_of at e; exact e)) (sum_le (sum_I sum_nil) (by decide)) rfl (fun v82 h83 => ?_)
                refine j_icmp_neS (q := 424) (tgt := 466) hx (dc kL_pairs_3 35 rfl) (by decide) rfl ?_ ?_
                · refine j_iconst (q := 467) (v := (0 : Int32)) hx (dc kL_pairs_3 56 rfl) (by decide) rfl ?_
                  exact r_cW hx (Or.inl rfl) hR (dc kL_pairs_3 57 rfl)
                · refine j_aload_n (q := 425) hx (dc kL_pairs_3 36 rfl) rfl 0 rfl rfl ?_
                  refine w_gR (q := 428) hx (dc kL_pairs_3 37 rfl) ff_L_0 lk_L_10 rfl (fun v84 => ?_)
                  refine j_iload_n (q := 429) hx (dc kL_pairs_3 38 rfl) rfl 1 rfl rfl ?_
                  refine j_bipush (q := 431) (v := (9 : Int32)) hx (dc kL_pairs_3 39 rfl) (by decide) rfl ?_
                  refine w_cVIR (q := 434) (As := [.int x1, .int (9 : Int32)]) (st := []) hx (dc kL_pairs_3 40 rfl) cf11 (by decide) rfl (cI _ my_X11_grown lm_L_379 (by decide)) vs_X11_grown rfl (fun u hu => sX11_grown _ _ _ _ _ _ _ hu) (fun e => ite_ne (by unfold mX11_grown at e; exact e)) (Nat.zero_le _) rfl (fun v85 => ?_)
                  refine j_bipush (q := 436) (v := (-2 : Int32)) hx (dc kL_pairs_3 41 rfl) (by decide) rfl ?_
                  refine j_icmp_eq (q := 439) (tgt := 462) hx (dc kL_pairs_3 42 rfl) (by decide) Iff.rfl rfl ?_ ?_
                  · refine j_iconst (q := 463) (v := (1 : Int32)) hx (dc kL_pairs_3 54 rfl) (by decide) rfl ?_
                    refine j_goto (q := 467) hx (dc kL_pairs_3 55 rfl) (by decide) ?_
                    exact r_cW hx (Or.inr rfl) hR (dc kL_pairs_3 57 rfl)
                  · refine j_aload_n (q := 440) hx (dc kL_pairs_3 43 rfl) rfl 0 rfl rfl ?_
                    refine w_gR (q := 443) hx (dc kL_pairs_3 44 rfl) ff_L_0 lk_L_10 rfl (fun v87 => ?_)
                    refine j_iload_n (q := 444) hx (dc kL_pairs_3 45 rfl) rfl 1 rfl rfl ?_
                    refine j_bipush (q := 446) (v := (9 : Int32)) hx (dc kL_pairs_3 46 rfl) (by decide) rfl ?_
                    refine w_cVIR (q := 449) (As := [.int x1, .int (9 : Int32)]) (st := []) hx (dc kL_pairs_3 47 rfl) cf11 (by decide) rfl (cI _ my_X11_grown lm_L_379 (by decide)) vs_X11_grown rfl (fun u hu => sX11_grown _ _ _ _ _ _ _ hu) (fun e => ite_ne (by unfold mX11_grown at e; exact e)) (Nat.zero_le _) rfl (fun v88 => ?_)
                    refine j_aload_n (q := 450) hx (dc kL_pairs_3 48 rfl) rfl 0 rfl rfl ?_
                    refine w_gR (q := 453) hx (dc kL_pairs_3 49 rfl) ff_L_0 lk_L_10 rfl (fun v90 => ?_)
                    refine j_iload_n (q := 454) hx (dc kL_pairs_3 50 rfl) rfl 1 rfl rfl ?_
                    refine j_bipush (q := 456) (v := (8 : Int32)) hx (dc kL_pairs_3 51 rfl) (by decide) rfl ?_
                    refine w_cVIR (q := 459) (As := [.int x1, .int (8 : Int32)]) (st := [.int v88]) hx (dc kL_pairs_3 52 rfl) cf11 (by decide) rfl (cI _ my_X11_grown lm_L_379 (by decide)) vs_X11_grown rfl (fun u hu => sX11_grown _ _ _ _ _ _ _ hu) (fun e => ite_ne (by unfold mX11_grown at e; exact e)) (sum_le (sum_I sum_nil) (by decide)) rfl (fun v91 => ?_)
                    refine j_icmp_lt (q := 462) (tgt := 466) hx (dc kL_pairs_3 53 rfl) (by decide) Iff.rfl rfl ?_ ?_
                    · refine j_iconst (q := 467) (v := (0 : Int32)) hx (dc kL_pairs_3 56 rfl) (by decide) rfl ?_
                      exact r_cW hx (Or.inl rfl) hR (dc kL_pairs_3 57 rfl)
                    · refine j_iconst (q := 463) (v := (1 : Int32)) hx (dc kL_pairs_3 54 rfl) (by decide) rfl ?_
                      refine j_goto (q := 467) hx (dc kL_pairs_3 55 rfl) (by decide) ?_
                      exact r_cW hx (Or.inr rfl) hR (dc kL_pairs_3 57 rfl)
              · refine j_iconst (q := 402) (v := (0 : Int32)) hx (dc kL_pairs_3 23 rfl) (by decide) rfl ?_
                exact r_cW hx (Or.inl rfl) hR (dc kL_pairs_3 24 rfl)
  have hb258 : ∀ (x0 : Nat) (x1 : Int32) (t0 : Int32) (h : Hp), J x 258 [(0, vR x.2.2.2 x0), (1, .int x1)] [.int t0] h (mL_pairs_b258 x0 x1 t0 h) (fun r => r = u) := by
    intro x0 x1 t0 h
    unfold mL_pairs_b258
    refine j_aload_n (q := 259) hx (dc kL_pairs_2 14 rfl) rfl 0 rfl rfl ?_
    refine w_gR (q := 262) hx (dc kL_pairs_2 15 rfl) ff_L_0 lk_L_10 rfl (fun v42 => ?_)
    refine j_iload_n (q := 263) hx (dc kL_pairs_2 16 rfl) rfl 1 rfl rfl ?_
    refine w_cVIW (q := 266) (As := [.int x1]) (st := [.int t0]) hx (dc kL_pairs_2 17 rfl) cf11 (by decide) rfl (cI _ my_X11_judged lm_L_260 (by decide)) vs_X11_judged rfl (fun u hu => sX11_judged _ _ _ _ _ _ hu) (fun e => ite_ne (by unfold mX11_judged at e; exact e)) (sum_le (sum_I sum_nil) (by decide)) rfl (fun v43 h44 => ?_)
    refine j_if_eq (q := 269) (tgt := 273) hx (dc kL_pairs_2 18 rfl) (by decide) Iff.rfl rfl ?_ ?_
    · refine j_iconst (q := 274) (v := (0 : Int32)) hx (dc kL_pairs_2 21 rfl) (by decide) rfl ?_
      exact hb274 x0 x1 t0 (0 : Int32) h44
    · refine j_iconst (q := 270) (v := (1 : Int32)) hx (dc kL_pairs_2 19 rfl) (by decide) rfl ?_
      refine j_goto (q := 274) hx (dc kL_pairs_2 20 rfl) (by decide) ?_
      exact hb274 x0 x1 t0 (1 : Int32) h44
  have hb239 : ∀ (x0 : Nat) (x1 : Int32) (h : Hp), J x 239 [(0, vR x.2.2.2 x0), (1, .int x1)] [] h (mL_pairs_b239 x0 x1 h) (fun r => r = u) := by
    intro x0 x1 h
    unfold mL_pairs_b239
    refine j_aload_n (q := 240) hx (dc kL_pairs_2 3 rfl) rfl 0 rfl rfl ?_
    refine w_gR (q := 243) hx (dc kL_pairs_2 4 rfl) ff_L_0 lk_L_10 rfl (fun v39 => ?_)
    refine j_iconst (q := 244) (v := (1 : Int32)) hx (dc kL_pairs_2 5 rfl) (by decide) rfl ?_
    refine j_iload_n (q := 245) hx (dc kL_pairs_2 6 rfl) rfl 1 rfl rfl ?_
    refine j_ishl (q := 246) hx (dc kL_pairs_2 7 rfl) rfl ?_
    refine w_cVIW (q := 249) (As := [.int ((1 : Int32) <<< (x1 &&& 31))]) (st := []) hx (dc kL_pairs_2 8 rfl) cf11 (by decide) rfl (cI _ my_X11_together lm_L_363 (by decide)) vs_X11_together rfl (fun u hu => sX11_together _ _ _ _ _ _ hu) (fun e => ite_ne (by unfold mX11_together at e; exact e)) (Nat.zero_le _) rfl (fun v40 h41 => ?_)
    refine j_iconst (q := 250) (v := (1 : Int32)) hx (dc kL_pairs_2 9 rfl) (by decide) rfl ?_
    refine j_icmp_neS (q := 253) (tgt := 257) hx (dc kL_pairs_2 10 rfl) (by decide) rfl ?_ ?_
    · refine j_iconst (q := 258) (v := (0 : Int32)) hx (dc kL_pairs_2 13 rfl) (by decide) rfl ?_
      exact hb258 x0 x1 (0 : Int32) h41
    · refine j_iconst (q := 254) (v := (1 : Int32)) hx (dc kL_pairs_2 11 rfl) (by decide) rfl ?_
      refine j_goto (q := 258) hx (dc kL_pairs_2 12 rfl) (by decide) ?_
      exact hb258 x0 x1 (1 : Int32) h41
  have hb213 : ∀ (x0 : Nat) (x1 : Int32) (x2 : Int32) (h : Hp), J x 213 [(0, vR x.2.2.2 x0), (1, .int x1), (2, .int x2)] [] h (mL_pairs_b213 x0 x1 x2 h) (fun r => r = u) := by
    intro x0 x1 x2 h
    unfold mL_pairs_b213
    refine j_aload_n (q := 214) hx (dc kL_pairs_1 53 rfl) rfl 0 rfl rfl ?_
    refine w_gR (q := 217) hx (dc kL_pairs_1 54 rfl) ff_L_0 lk_L_10 rfl (fun v36 => ?_)
    refine j_iload_n (q := 218) hx (dc kL_pairs_1 55 rfl) rfl 1 rfl rfl ?_
    refine w_cVIW (q := 221) (As := [.int x1]) (st := []) hx (dc kL_pairs_1 56 rfl) cf11 (by decide) rfl (cI _ my_X11_judged lm_L_260 (by decide)) vs_X11_judged rfl (fun u hu => sX11_judged _ _ _ _ _ _ hu) (fun e => ite_ne (by unfold mX11_judged at e; exact e)) (Nat.zero_le _) rfl (fun v37 h38 => ?_)
    refine j_if_neS (q := 224) (tgt := 239) hx (dc kL_pairs_1 57 rfl) (by decide) rfl ?_ ?_
    · exact j_sub [0, 1] rfl (hb239 x0 x1 h38)
    · refine j_aload_n (q := 225) hx (dc kL_pairs_1 58 rfl) rfl 0 rfl rfl ?_
      refine w_gR (q := 228) hx (dc kL_pairs_1 59 rfl) ff_L_0 lk_L_10 rfl (fun v93 => ?_)
      refine j_iload_n (q := 229) hx (dc kL_pairs_1 60 rfl) rfl 1 rfl rfl ?_
      refine j_iload_n (q := 230) hx (dc kL_pairs_1 61 rfl) rfl 2 rfl rfl ?_
      refine w_cVIW (q := 233) (As := [.int x1, .int x2]) (st := []) hx (dc kL_pairs_1 62 rfl) cf11 (by decide) rfl (cI _ my_X11_implied lm_L_376 (by decide)) vs_X11_implied rfl (fun u hu => sX11_implied _ _ _ _ _ _ _ hu) (fun e => ite_ne (by unfold mX11_implied at e; exact e)) (Nat.zero_le _) rfl (fun v94 h95 => ?_)
      refine j_iconst (q := 234) (v := (1 : Int32)) hx (dc kL_pairs_1 63 rfl) (by decide) rfl ?_
      refine j_icmp_eq (q := 237) (tgt := 239) hx (dc kL_pairs_2 0 rfl) (by decide) Iff.rfl rfl ?_ ?_
      · exact j_sub [0, 1] rfl (hb239 x0 x1 h95)
      · refine j_iconst (q := 238) (v := (0 : Int32)) hx (dc kL_pairs_2 1 rfl) (by decide) rfl ?_
        exact r_cW hx (Or.inl rfl) hR (dc kL_pairs_2 2 rfl)
  have hb173 : ∀ (x0 : Nat) (x1 : Int32) (x2 : Int32) (x3 : UInt64) (x5 : UInt64) (h : Hp), J x 173 [(0, vR x.2.2.2 x0), (1, .int x1), (2, .int x2), (3, .double x3), (5, .double x5)] [] h (mL_pairs_b173 x0 x1 x2 x3 x5 h) (fun r => r = u) := by
    intro x0 x1 x2 x3 x5 h
    unfold mL_pairs_b173
    refine j_aload_n (q := 174) hx (dc kL_pairs_1 32 rfl) rfl 0 rfl rfl ?_
    refine w_gR (q := 177) hx (dc kL_pairs_1 33 rfl) ff_L_0 lk_L_10 rfl (fun v33 => ?_)
    refine j_iload_n (q := 178) hx (dc kL_pairs_1 34 rfl) rfl 1 rfl rfl ?_
    refine j_iload_n (q := 179) hx (dc kL_pairs_1 35 rfl) rfl 2 rfl rfl ?_
    refine w_cVIW (q := 182) (As := [.int x1, .int x2]) (st := []) hx (dc kL_pairs_1 36 rfl) cf11 (by decide) rfl (cI _ my_X11_implied lm_L_376 (by decide)) vs_X11_implied rfl (fun u hu => sX11_implied _ _ _ _ _ _ _ hu) (fun e => ite_ne (by unfold mX11_implied at e; exact e)) (Nat.zero_le _) rfl (fun v34 h35 => ?_)
    refine j_iconst (q := 183) (v := (1 : Int32)) hx (dc kL_pairs_1 37 rfl) (by decide) rfl ?_
    refine j_icmp_neS (q := 186) (tgt := 213) hx (dc kL_pairs_1 38 rfl) (by decide) rfl ?_ ?_
    · exact j_sub [0, 1, 2] rfl (hb213 x0 x1 x2 h35)
    · refine j_aload_n (q := 187) hx (dc kL_pairs_1 39 rfl) rfl 0 rfl rfl ?_
      refine w_gR (q := 190) hx (dc kL_pairs_1 40 rfl) ff_L_0 lk_L_10 rfl (fun v96 => ?_)
      refine j_iload_n (q := 191) hx (dc kL_pairs_1 41 rfl) rfl 2 rfl rfl ?_
      refine j_iload_n (q := 192) hx (dc kL_pairs_1 42 rfl) rfl 1 rfl rfl ?_
      refine w_cVIW (q := 195) (As := [.int x2, .int x1]) (st := []) hx (dc kL_pairs_1 43 rfl) cf11 (by decide) rfl (cI _ my_X11_implied lm_L_376 (by decide)) vs_X11_implied rfl (fun u hu => sX11_implied _ _ _ _ _ _ _ hu) (fun e => ite_ne (by unfold mX11_implied at e; exact e)) (Nat.zero_le _) rfl (fun v97 h98 => ?_)
      refine j_iconst (q := 196) (v := (1 : Int32)) hx (dc kL_pairs_1 44 rfl) (by decide) rfl ?_
      refine j_icmp_neS (q := 199) (tgt := 213) hx (dc kL_pairs_1 45 rfl) (by decide) rfl ?_ ?_
      · exact j_sub [0, 1, 2] rfl (hb213 x0 x1 x2 h98)
      · refine j_dload_n (q := 200) hx (dc kL_pairs_1 46 rfl) rfl 3 rfl rfl ?_
        refine j_dload (q := 202) hx (dc kL_pairs_1 47 rfl) 4 rfl rfl ?_
        refine j_dsub (q := 203) hx (dc kL_pairs_1 48 rfl) rfl (fun v99 => ?_)
        refine w_dabs (q := 206) hx (dc kL_pairs_1 49 rfl) lm_L_354 ms_dabs ms_init mc_dabs (by decide) (Nat.zero_le _) rfl (fun v100 => ?_)
        refine j_ldc2D (q := 209) hx kd_L_358 (dc kL_pairs_1 50 rfl) rfl ?_
        refine j_dcmp (q := 210) hx (dc kL_pairs_1 51 rfl) rfl ?_
        refine j_if_gt (q := 213) (tgt := 237) hx (dc kL_pairs_1 52 rfl) (by decide) Iff.rfl rfl ?_ ?_
        · refine j_iconst (q := 238) (v := (0 : Int32)) hx (dc kL_pairs_2 1 rfl) (by decide) rfl ?_
          exact r_cW hx (Or.inl rfl) hR (dc kL_pairs_2 2 rfl)
        · exact j_sub [0, 1, 2] rfl (hb213 x0 x1 x2 h98)
  have hb104 : ∀ (x0 : Nat) (x1 : Int32) (x2 : Int32) (h : Hp), J x 104 [(0, vR x.2.2.2 x0), (1, .int x1), (2, .int x2)] [] h (mL_pairs_b104 x0 x1 x2 h) (fun r => r = u) := by
    intro x0 x1 x2 h
    unfold mL_pairs_b104
    refine j_aload_n (q := 105) hx (dc kL_pairs_0 55 rfl) rfl 0 rfl rfl ?_
    refine w_gR (q := 108) hx (dc kL_pairs_0 56 rfl) ff_L_0 lk_L_10 rfl (fun v16 => ?_)
    refine j_iload_n (q := 109) hx (dc kL_pairs_0 57 rfl) rfl 1 rfl rfl ?_
    refine j_iconst (q := 110) (v := (0 : Int32)) hx (dc kL_pairs_0 58 rfl) (by decide) rfl ?_
    refine w_cVIW (q := 113) (As := [.int x1, .int (0 : Int32)]) (st := []) hx (dc kL_pairs_0 59 rfl) cf11 (by decide) rfl (cI _ my_X11_chance lm_L_263 (by decide)) vs_X11_chance rfl (fun u hu => sX11_chance _ _ _ _ _ _ _ hu) (fun e => ite_ne (by unfold mX11_chance at e; exact e)) (Nat.zero_le _) rfl (fun v17 h18 => ?_)
    refine j_i2d (q := 114) hx (dc kL_pairs_0 60 rfl) rfl ?_
    refine j_aload_n (q := 115) hx (dc kL_pairs_0 61 rfl) rfl 0 rfl rfl ?_
    refine w_gR (q := 118) hx (dc kL_pairs_0 62 rfl) ff_L_0 lk_L_10 rfl (fun v19 => ?_)
    refine j_iload_n (q := 119) hx (dc kL_pairs_0 63 rfl) rfl 1 rfl rfl ?_
    refine j_iconst (q := 120) (v := (1 : Int32)) hx (dc kL_pairs_1 0 rfl) (by decide) rfl ?_
    refine w_cVIW (q := 123) (As := [.int x1, .int (1 : Int32)]) (st := [.double (FP.i2d v17)]) hx (dc kL_pairs_1 1 rfl) cf11 (by decide) rfl (cI _ my_X11_chance lm_L_263 (by decide)) vs_X11_chance rfl (fun u hu => sX11_chance _ _ _ _ _ _ _ hu) (fun e => ite_ne (by unfold mX11_chance at e; exact e)) (sum_le (sum_D sum_nil) (by decide)) rfl (fun v20 h21 => ?_)
    refine j_i2d (q := 124) hx (dc kL_pairs_1 2 rfl) rfl ?_
    refine j_ddiv (q := 125) hx (dc kL_pairs_1 3 rfl) rfl (fun v22 => ?_)
    refine j_dstore_n (q := 126) (i := 3) (l2 := [(0, vR x.2.2.2 x0), (1, .int x1), (2, .int x2)]) hx (dc kL_pairs_1 4 rfl) rfl (hn 4 (by decide)) [0, 1, 2] rfl ⟨⟨show (0 : Nat) ≠ 3 by decide, Or.inl (show (0 : Nat) + 1 ≠ 3 by decide)⟩, ⟨⟨show (1 : Nat) ≠ 3 by decide, Or.inl (show (1 : Nat) + 1 ≠ 3 by decide)⟩, ⟨⟨show (2 : Nat) ≠ 3 by decide, Or.inr rfl⟩, trivial⟩⟩⟩ (by simp) rfl ?_
    refine j_aload_n (q := 127) hx (dc kL_pairs_1 5 rfl) rfl 1 rfl rfl ?_
    refine w_gR (q := 130) hx (dc kL_pairs_1 6 rfl) ff_L_0 lk_L_10 rfl (fun v23 => ?_)
    refine j_iload_n (q := 131) hx (dc kL_pairs_1 7 rfl) rfl 3 rfl rfl ?_
    refine j_iconst (q := 132) (v := (0 : Int32)) hx (dc kL_pairs_1 8 rfl) (by decide) rfl ?_
    refine w_cVIW (q := 135) (As := [.int x2, .int (0 : Int32)]) (st := []) hx (dc kL_pairs_1 9 rfl) cf11 (by decide) rfl (cI _ my_X11_chance lm_L_263 (by decide)) vs_X11_chance rfl (fun u hu => sX11_chance _ _ _ _ _ _ _ hu) (fun e => ite_ne (by unfold mX11_chance at e; exact e)) (Nat.zero_le _) rfl (fun v24 h25 => ?_)
    refine j_i2d (q := 136) hx (dc kL_pairs_1 10 rfl) rfl ?_
    refine j_aload_n (q := 137) hx (dc kL_pairs_1 11 rfl) rfl 1 rfl rfl ?_
    refine w_gR (q := 140) hx (dc kL_pairs_1 12 rfl) ff_L_0 lk_L_10 rfl (fun v26 => ?_)
    refine j_iload_n (q := 141) hx (dc kL_pairs_1 13 rfl) rfl 3 rfl rfl ?_
    refine j_iconst (q := 142) (v := (1 : Int32)) hx (dc kL_pairs_1 14 rfl) (by decide) rfl ?_
    refine w_cVIW (q := 145) (As := [.int x2, .int (1 : Int32)]) (st := [.double (FP.i2d v24)]) hx (dc kL_pairs_1 15 rfl) cf11 (by decide) rfl (cI _ my_X11_chance lm_L_263 (by decide)) vs_X11_chance rfl (fun u hu => sX11_chance _ _ _ _ _ _ _ hu) (fun e => ite_ne (by unfold mX11_chance at e; exact e)) (sum_le (sum_D sum_nil) (by decide)) rfl (fun v27 h28 => ?_)
    refine j_i2d (q := 146) hx (dc kL_pairs_1 16 rfl) rfl ?_
    refine j_ddiv (q := 147) hx (dc kL_pairs_1 17 rfl) rfl (fun v29 => ?_)
    refine j_dstore (q := 149) (i := 5) (l2 := [(3, .double v22), (0, vR x.2.2.2 x0), (1, .int x1), (2, .int x2)]) hx (dc kL_pairs_1 18 rfl) (hn 6 (by decide)) [0, 1, 2, 3] rfl ⟨⟨show (3 : Nat) ≠ 5 by decide, Or.inl (show (3 : Nat) + 1 ≠ 5 by decide)⟩, ⟨⟨show (0 : Nat) ≠ 5 by decide, Or.inl (show (0 : Nat) + 1 ≠ 5 by decide)⟩, ⟨⟨show (1 : Nat) ≠ 5 by decide, Or.inl (show (1 : Nat) + 1 ≠ 5 by decide)⟩, ⟨⟨show (2 : Nat) ≠ 5 by decide, Or.inl (show (2 : Nat) + 1 ≠ 5 by decide)⟩, trivial⟩⟩⟩⟩ (by simp) rfl ?_
    refine j_aload_n (q := 150) hx (dc kL_pairs_1 19 rfl) rfl 2 rfl rfl ?_
    refine w_gR (q := 153) hx (dc kL_pairs_1 20 rfl) ff_L_0 lk_L_10 rfl (fun v30 => ?_)
    refine j_iload_n (q := 154) hx (dc kL_pairs_1 21 rfl) rfl 3 rfl rfl ?_
    refine j_iload_n (q := 155) hx (dc kL_pairs_1 22 rfl) rfl 4 rfl rfl ?_
    refine w_cVIW (q := 158) (As := [.int x1, .int x2]) (st := []) hx (dc kL_pairs_1 23 rfl) cf11 (by decide) rfl (cI _ my_X11_implied lm_L_376 (by decide)) vs_X11_implied rfl (fun u hu => sX11_implied _ _ _ _ _ _ _ hu) (fun e => ite_ne (by unfold mX11_implied at e; exact e)) (Nat.zero_le _) rfl (fun v31 h32 => ?_)
    refine j_iconst (q := 159) (v := (1 : Int32)) hx (dc kL_pairs_1 24 rfl) (by decide) rfl ?_
    refine j_icmp_neS (q := 162) (tgt := 173) hx (dc kL_pairs_1 25 rfl) (by decide) rfl ?_ ?_
    · exact j_sub [2, 3, 4, 1, 0] rfl (hb173 x0 x1 x2 v22 v29 h32)
    · refine j_dload_n (q := 163) hx (dc kL_pairs_1 26 rfl) rfl 1 rfl rfl ?_
      refine j_dload (q := 165) hx (dc kL_pairs_1 27 rfl) 0 rfl rfl ?_
      refine j_ldc2D (q := 168) hx kd_L_358 (dc kL_pairs_1 28 rfl) rfl ?_
      refine j_dadd (q := 169) hx (dc kL_pairs_1 29 rfl) rfl (fun v101 => ?_)
      refine j_dcmp (q := 170) hx (dc kL_pairs_1 30 rfl) rfl ?_
      refine j_if_gt (q := 173) (tgt := 237) hx (dc kL_pairs_1 31 rfl) (by decide) Iff.rfl rfl ?_ ?_
      · refine j_iconst (q := 238) (v := (0 : Int32)) hx (dc kL_pairs_2 1 rfl) (by decide) rfl ?_
        exact r_cW hx (Or.inl rfl) hR (dc kL_pairs_2 2 rfl)
      · exact j_sub [2, 3, 4, 1, 0] rfl (hb173 x0 x1 x2 v22 v29 h32)
  have hb75 : ∀ (x0 : Nat) (x1 : Int32) (x2 : Int32) (h : Hp), J x 75 [(0, vR x.2.2.2 x0), (1, .int x1), (2, .int x2)] [] h (mL_pairs_b75 x0 x1 x2 h) (fun r => r = u) := by
    intro x0 x1 x2 h
    unfold mL_pairs_b75
    refine j_aload_n (q := 76) hx (dc kL_pairs_0 39 rfl) rfl 0 rfl rfl ?_
    refine w_gR (q := 79) hx (dc kL_pairs_0 40 rfl) ff_L_0 lk_L_10 rfl (fun v13 => ?_)
    refine j_iload_n (q := 80) hx (dc kL_pairs_0 41 rfl) rfl 1 rfl rfl ?_
    refine j_bipush (q := 82) (v := (9 : Int32)) hx (dc kL_pairs_0 42 rfl) (by decide) rfl ?_
    refine w_cVIW (q := 85) (As := [.int x1, .int (9 : Int32)]) (st := []) hx (dc kL_pairs_0 43 rfl) cf11 (by decide) rfl (cI _ my_X11_of lm_L_253 (by decide)) vs_X11_of rfl (fun u hu => sX11_of _ _ _ _ _ _ _ hu) (fun e => ite_ne (by unfold mX11_of at e; exact e)) (Nat.zero_le _) rfl (fun v14 h15 => ?_)
    refine j_iconst (q := 86) (v := (2 : Int32)) hx (dc kL_pairs_0 44 rfl) (by decide) rfl ?_
    refine j_icmp_neS (q := 89) (tgt := 104) hx (dc kL_pairs_0 45 rfl) (by decide) rfl ?_ ?_
    · exact hb104 x0 x1 x2 h15
    · refine j_aload_n (q := 90) hx (dc kL_pairs_0 46 rfl) rfl 0 rfl rfl ?_
      refine w_gR (q := 93) hx (dc kL_pairs_0 47 rfl) ff_L_0 lk_L_10 rfl (fun v102 => ?_)
      refine j_iload_n (q := 94) hx (dc kL_pairs_0 48 rfl) rfl 1 rfl rfl ?_
      refine j_iload_n (q := 95) hx (dc kL_pairs_0 49 rfl) rfl 2 rfl rfl ?_
      refine w_cVIW (q := 98) (As := [.int x1, .int x2]) (st := []) hx (dc kL_pairs_0 50 rfl) cf11 (by decide) rfl (cI _ my_X11_clash lm_L_373 (by decide)) vs_X11_clash rfl (fun u hu => sX11_clash _ _ _ _ _ _ _ hu) (fun e => ite_ne (by unfold mX11_clash at e; exact e)) (Nat.zero_le _) rfl (fun v103 h104 => ?_)
      refine j_iconst (q := 99) (v := (1 : Int32)) hx (dc kL_pairs_0 51 rfl) (by decide) rfl ?_
      refine j_icmp_eq (q := 102) (tgt := 104) hx (dc kL_pairs_0 52 rfl) (by decide) Iff.rfl rfl ?_ ?_
      · exact hb104 x0 x1 x2 h104
      · refine j_iconst (q := 103) (v := (0 : Int32)) hx (dc kL_pairs_0 53 rfl) (by decide) rfl ?_
        exact r_cW hx (Or.inl rfl) hR (dc kL_pairs_0 54 rfl)
  unfold mL_pairs
  refine J.ckd fun hck => ?_
  refine j_aload_n (q := 1) hx (dc kL_pairs_0 0 rfl) rfl 0 rfl rfl ?_
  refine w_gR (q := 4) hx (dc kL_pairs_0 1 rfl) ff_L_0 lk_L_10 rfl (fun v1 => ?_)
  refine j_iload_n (q := 5) hx (dc kL_pairs_0 2 rfl) rfl 1 rfl rfl ?_
  refine j_iload_n (q := 6) hx (dc kL_pairs_0 3 rfl) rfl 2 rfl rfl ?_
  refine w_cVIW (q := 9) (As := [.int x1, .int x2]) (st := []) hx (dc kL_pairs_0 4 rfl) cf11 (by decide) rfl (cI _ my_X11_clash lm_L_373 (by decide)) vs_X11_clash rfl (fun u hu => sX11_clash _ _ _ _ _ _ _ hu) (fun e => ite_ne (by unfold mX11_clash at e; exact e)) (Nat.zero_le _) rfl (fun v2 h3 => ?_)
  refine j_aload_n (q := 10) hx (dc kL_pairs_0 5 rfl) rfl 0 rfl rfl ?_
  refine w_gR (q := 13) hx (dc kL_pairs_0 6 rfl) ff_L_0 lk_L_10 rfl (fun v4 => ?_)
  refine j_iload_n (q := 14) hx (dc kL_pairs_0 7 rfl) rfl 2 rfl rfl ?_
  refine j_iload_n (q := 15) hx (dc kL_pairs_0 8 rfl) rfl 1 rfl rfl ?_
  refine w_cVIW (q := 18) (As := [.int x2, .int x1]) (st := [.int v2]) hx (dc kL_pairs_0 9 rfl) cf11 (by decide) rfl (cI _ my_X11_clash lm_L_373 (by decide)) vs_X11_clash rfl (fun u hu => sX11_clash _ _ _ _ _ _ _ hu) (fun e => ite_ne (by unfold mX11_clash at e; exact e)) (sum_le (sum_I sum_nil) (by decide)) rfl (fun v5 h6 => ?_)
  refine j_icmp_neS (q := 21) (tgt := 102) hx (dc kL_pairs_0 10 rfl) (by decide) rfl ?_ ?_
  · refine j_iconst (q := 103) (v := (0 : Int32)) hx (dc kL_pairs_0 53 rfl) (by decide) rfl ?_
    exact r_cW hx (Or.inl rfl) hR (dc kL_pairs_0 54 rfl)
  · refine j_aload_n (q := 22) hx (dc kL_pairs_0 11 rfl) rfl 0 rfl rfl ?_
    refine w_gR (q := 25) hx (dc kL_pairs_0 12 rfl) ff_L_0 lk_L_10 rfl (fun v7 => ?_)
    refine j_iload_n (q := 26) hx (dc kL_pairs_0 13 rfl) rfl 1 rfl rfl ?_
    refine j_iload_n (q := 27) hx (dc kL_pairs_0 14 rfl) rfl 1 rfl rfl ?_
    refine w_cVIW (q := 30) (As := [.int x1, .int x1]) (st := []) hx (dc kL_pairs_0 15 rfl) cf11 (by decide) rfl (cI _ my_X11_implied lm_L_376 (by decide)) vs_X11_implied rfl (fun u hu => sX11_implied _ _ _ _ _ _ _ hu) (fun e => ite_ne (by unfold mX11_implied at e; exact e)) (Nat.zero_le _) rfl (fun v8 h9 => ?_)
    refine j_iconst (q := 31) (v := (1 : Int32)) hx (dc kL_pairs_0 16 rfl) (by decide) rfl ?_
    refine j_icmp_neS (q := 34) (tgt := 102) hx (dc kL_pairs_0 17 rfl) (by decide) rfl ?_ ?_
    · refine j_iconst (q := 103) (v := (0 : Int32)) hx (dc kL_pairs_0 53 rfl) (by decide) rfl ?_
      exact r_cW hx (Or.inl rfl) hR (dc kL_pairs_0 54 rfl)
    · refine j_aload_n (q := 35) hx (dc kL_pairs_0 18 rfl) rfl 0 rfl rfl ?_
      refine w_gR (q := 38) hx (dc kL_pairs_0 19 rfl) ff_L_0 lk_L_10 rfl (fun v10 => ?_)
      refine j_iload_n (q := 39) hx (dc kL_pairs_0 20 rfl) rfl 1 rfl rfl ?_
      refine j_iload_n (q := 40) hx (dc kL_pairs_0 21 rfl) rfl 1 rfl rfl ?_
      refine w_cVIW (q := 43) (As := [.int x1, .int x1]) (st := []) hx (dc kL_pairs_0 22 rfl) cf11 (by decide) rfl (cI _ my_X11_clash lm_L_373 (by decide)) vs_X11_clash rfl (fun u hu => sX11_clash _ _ _ _ _ _ _ hu) (fun e => ite_ne (by unfold mX11_clash at e; exact e)) (Nat.zero_le _) rfl (fun v11 h12 => ?_)
      refine j_iconst (q := 44) (v := (1 : Int32)) hx (dc kL_pairs_0 23 rfl) (by decide) rfl ?_
      refine j_icmp_neS (q := 47) (tgt := 75) hx (dc kL_pairs_0 24 rfl) (by decide) rfl ?_ ?_
      · exact hb75 x0 x1 x2 h12
      · refine j_aload_n (q := 48) hx (dc kL_pairs_0 25 rfl) rfl 0 rfl rfl ?_
        refine w_gR (q := 51) hx (dc kL_pairs_0 26 rfl) ff_L_0 lk_L_10 rfl (fun v105 => ?_)
        refine j_iload_n (q := 52) hx (dc kL_pairs_0 27 rfl) rfl 1 rfl rfl ?_
        refine j_bipush (q := 54) (v := (9 : Int32)) hx (dc kL_pairs_0 28 rfl) (by decide) rfl ?_
        refine w_cVIW (q := 57) (As := [.int x1, .int (9 : Int32)]) (st := []) hx (dc kL_pairs_0 29 rfl) cf11 (by decide) rfl (cI _ my_X11_of lm_L_253 (by decide)) vs_X11_of rfl (fun u hu => sX11_of _ _ _ _ _ _ _ hu) (fun e => ite_ne (by unfold mX11_of at e; exact e)) (Nat.zero_le _) rfl (fun v106 h107 => ?_)
        refine j_iconst (q := 58) (v := (1 : Int32)) hx (dc kL_pairs_0 30 rfl) (by decide) rfl ?_
        refine j_icmp_eq (q := 61) (tgt := 75) hx (dc kL_pairs_0 31 rfl) (by decide) Iff.rfl rfl ?_ ?_
        · exact hb75 x0 x1 x2 h107
        · refine j_aload_n (q := 62) hx (dc kL_pairs_0 32 rfl) rfl 0 rfl rfl ?_
          refine w_gR (q := 65) hx (dc kL_pairs_0 33 rfl) ff_L_0 lk_L_10 rfl (fun v108 => ?_)
          refine j_iload_n (q := 66) hx (dc kL_pairs_0 34 rfl) rfl 1 rfl rfl ?_
          refine j_bipush (q := 68) (v := (9 : Int32)) hx (dc kL_pairs_0 35 rfl) (by decide) rfl ?_
          refine w_cVIW (q := 71) (As := [.int x1, .int (9 : Int32)]) (st := []) hx (dc kL_pairs_0 36 rfl) cf11 (by decide) rfl (cI _ my_X11_of lm_L_253 (by decide)) vs_X11_of rfl (fun u hu => sX11_of _ _ _ _ _ _ _ hu) (fun e => ite_ne (by unfold mX11_of at e; exact e)) (Nat.zero_le _) rfl (fun v109 h110 => ?_)
          refine j_iconst (q := 72) (v := (2 : Int32)) hx (dc kL_pairs_0 37 rfl) (by decide) rfl ?_
          refine j_icmp_neS (q := 75) (tgt := 102) hx (dc kL_pairs_0 38 rfl) (by decide) rfl ?_ ?_
          · refine j_iconst (q := 103) (v := (0 : Int32)) hx (dc kL_pairs_0 53 rfl) (by decide) rfl ?_
            exact r_cW hx (Or.inl rfl) hR (dc kL_pairs_0 54 rfl)
          · exact hb75 x0 x1 x2 h110

set_option maxHeartbeats 4000000 in
set_option maxRecDepth 100000 in
theorem sL_lacked (l : Launch) (w : Wd) (x0 : Nat) (x1 : Int32) (h : Hp) (u : (Int32 × Hp)) (hK : mL_lacked x0 x1 h = some u) : M1 l w mi_L_lacked 7 [vR w x0, .int x1] h u.2 (some (.int u.1)) := by
  refine M1.of (own := RL) (T := fun _ r => r = u) hK (by decide +kernel) rfl (by first | (simp only [lg_lenR, lg_lenI, lg_lenL, lg_len0]; decide) | decide) (fun x hx hnl hhf hl hw hret hnm hQ h0e => ⟨?_, rfl⟩)
  subst hw
  subst hl
  have hR : Rt x h u.2 (some (.int u.1)) ((some .boolean)) := ⟨h0e, hhf, hret, hQ⟩
  have hn : ∀ i, i < 8 → i < x.2.2.1.1.1 := fun i hi => by rw [hnl]; exact hi
  have e0 : lv_args 0 [vR x.2.2.2 x0, .int x1] = [(0, vR x.2.2.2 x0), (1, .int x1)] := by simp only [lv_argsR, lv_argsI, lv_argsL, lv_args0]
  rw [e0]
  have hb191 : ∀ (x0 : Nat) (x1 : Int32) (x3 : Int32) (x4 : Int32) (x5 : Int32) (x6 : Int32) (x7 : Int32) (h : Hp), J x 191 [(0, vR x.2.2.2 x0), (1, .int x1), (3, .int x3), (4, .int x4), (5, .int x5), (6, .int x6), (7, .int x7)] [] h (mL_lacked_l191 x0 x1 x3 x4 x5 x6 x7 h) (fun r => r = u) := by
    intro x0 x1 x3 x4 x5 x6 x7 h
    have hB : ∀ (x6 : Int32) (x7 : Int32) (h : Hp), J x 191 [(0, vR x.2.2.2 x0), (1, .int x1), (3, .int x3), (4, .int x4), (5, .int x5), (6, .int x6), (7, .int x7)] [] h (mL_lacked_l191f x0 x1 x3 x4 x5 x6 x7 h) (TLo (S := (Int32 × Int32 × Hp)) x 191 (fun s => [(0, vR x.2.2.2 x0), (1, .int x1), (3, .int x3), (4, .int x4), (5, .int x5), (6, .int s.1), (7, .int s.2.1)]) [] (fun s => s.2.2) (fun r => r = u)) := by
      intro x6 x7 h
      have hb250 : ∀ (x0 : Nat) (x1 : Int32) (x3 : Int32) (x4 : Int32) (x5 : Int32) (x6 : Int32) (x7 : Int32) (h : Hp), J x 250 [(0, vR x.2.2.2 x0), (1, .int x1), (3, .int x3), (4, .int x4), (5, .int x5), (6, .int x6), (7, .int x7)] [] h (mL_lacked_b250 x0 x1 x3 x4 x5 x6 x7 h) (TLo (S := (Int32 × Int32 × Hp)) x 191 (fun s => [(0, vR x.2.2.2 x0), (1, .int x1), (3, .int x3), (4, .int x4), (5, .int x5), (6, .int s.1), (7, .int s.2.1)]) [] (fun s => s.2.2) (fun r => r = u)) := by
        intro x0 x1 x3 x4 x5 x6 x7 h
        unfold mL_lacked_b250
        refine j_iinc (q := 253) (l2 := [(0, vR x.2.2.2 x0), (1, .int x1), (3, .int x3), (4, .int x4), (5, .int x5), (6, .int x6)]) hx (dc kL_lacked_2 6 rfl) 6 rfl (v := (1 : Int32)) (by decide) (hn 7 (by decide)) [0, 1, 2, 3, 4, 5] rfl ⟨⟨show (0 : Nat) ≠ 7 by decide, Or.inl (show (0 : Nat) + 1 ≠ 7 by decide)⟩, ⟨⟨show (1 : Nat) ≠ 7 by decide, Or.inl (show (1 : Nat) + 1 ≠ 7 by decide)⟩, ⟨⟨show (3 : Nat) ≠ 7 by decide, Or.inl (show (3 : Nat) + 1 ≠ 7 by decide)⟩, ⟨⟨show (4 : Nat) ≠ 7 by decide, Or.inl (show (4 : Nat) + 1 ≠ 7 by decide)⟩, ⟨⟨show (5 : Nat) ≠ 7 by decide, Or.inl (show (5 : Nat) + 1 ≠ 7 by decide)⟩, ⟨⟨show (6 : Nat) ≠ 7 by decide, Or.inr rfl⟩, trivial⟩⟩⟩⟩⟩⟩ rfl ?_
        refine j_goto (q := 191) hx (dc kL_lacked_2 7 rfl) (by decide) ?_
        exact j_back [1, 2, 3, 4, 5, 6, 0] (x6, (x7 + (1 : Int32)), h) rfl rfl
      unfold mL_lacked_l191f
      refine j_iload (q := 193) hx (dc kL_lacked_1 39 rfl) 6 rfl rfl ?_
      refine j_aload_n (q := 194) hx (dc kL_lacked_1 40 rfl) rfl 0 rfl rfl ?_
      refine w_gI (q := 197) hx (dc kL_lacked_1 41 rfl) ff_L_3 lk_L_87 rfl (fun v18 => ?_)
      refine j_icmp_geS (q := 200) (tgt := 256) hx (dc kL_lacked_1 42 rfl) (by decide) rfl ?_ ?_
      · refine j_exit ?_
        refine j_aload_n (q := 257) hx (dc kL_lacked_2 8 rfl) rfl 0 rfl rfl ?_
        refine w_gR (q := 260) hx (dc kL_lacked_2 9 rfl) ff_L_0 lk_L_10 rfl (fun v19 => ?_)
        refine j_iload_n (q := 261) hx (dc kL_lacked_2 10 rfl) rfl 1 rfl rfl ?_
        refine j_bipush (q := 263) (v := (9 : Int32)) hx (dc kL_lacked_2 11 rfl) (by decide) rfl ?_
        refine w_cVIW (q := 266) (As := [.int x1, .int (9 : Int32)]) (st := []) hx (dc kL_lacked_2 12 rfl) cf11 (by decide) rfl (cI _ my_X11_of lm_L_253 (by decide)) vs_X11_of rfl (fun u hu => sX11_of _ _ _ _ _ _ _ hu) (fun e => ite_ne (by unfold mX11_of at e; exact e)) (Nat.zero_le _) rfl (fun v20 h21 => ?_)
        refine j_if_neS (q := 269) (tgt := 309) hx (dc kL_lacked_2 13 rfl) (by decide) rfl ?_ ?_
        · refine j_iconst (q := 310) (v := (0 : Int32)) hx (dc kL_lacked_2 33 rfl) (by decide) rfl ?_
          exact r_cW hx (Or.inl rfl) hR (dc kL_lacked_2 34 rfl)
        · refine j_aload_n (q := 270) hx (dc kL_lacked_2 14 rfl) rfl 0 rfl rfl ?_
          refine w_gR (q := 273) hx (dc kL_lacked_2 15 rfl) ff_L_0 lk_L_10 rfl (fun v22 => ?_)
          refine j_iload_n (q := 274) hx (dc kL_lacked_2 16 rfl) rfl 1 rfl rfl ?_
          refine j_iconst (q := 275) (v := (0 : Int32)) hx (dc kL_lacked_2 17 rfl) (by decide) rfl ?_
          refine w_cVIW (q := 278) (As := [.int x1, .int (0 : Int32)]) (st := []) hx (dc kL_lacked_2 18 rfl) cf11 (by decide) rfl (cI _ my_X11_lacks lm_L_382 (by decide)) vs_X11_lacks rfl (fun u hu => sX11_lacks _ _ _ _ _ _ _ hu) (fun e => ite_ne (by unfold mX11_lacks at e; exact e)) (Nat.zero_le _) rfl (fun v23 h24 => ?_)
          refine j_if_neS (q := 281) (tgt := 309) hx (dc kL_lacked_2 19 rfl) (by decide) rfl ?_ ?_
          · refine j_iconst (q := 310) (v := (0 : Int32)) hx (dc kL_lacked_2 33 rfl) (by decide) rfl ?_
            exact r_cW hx (Or.inl rfl) hR (dc kL_lacked_2 34 rfl)
          · refine j_aload_n (q := 282) hx (dc kL_lacked_2 20 rfl) rfl 0 rfl rfl ?_
            refine j_iload (q := 284) hx (dc kL_lacked_2 21 rfl) 5 rfl rfl ?_
            refine w_cVIW (q := 287) (As := [.int x6]) (st := []) hx (dc kL_lacked_2 22 rfl) cf15 (by decide) rfl (cI _ my_L_taken lm_L_313 (by decide)) vs_L_taken rfl (fun u hu => sL_taken _ _ _ _ _ _ hu) (fun e => ite_ne (by unfold mL_taken at e; exact e)) (Nat.zero_le _) rfl (fun v25 h26 => ?_)
            refine j_if_eq (q := 290) (tgt := 309) hx (dc kL_lacked_2 23 rfl) (by decide) Iff.rfl rfl ?_ ?_
            · refine j_iconst (q := 310) (v := (0 : Int32)) hx (dc kL_lacked_2 33 rfl) (by decide) rfl ?_
              exact r_cW hx (Or.inl rfl) hR (dc kL_lacked_2 34 rfl)
            · refine j_aload_n (q := 291) hx (dc kL_lacked_2 24 rfl) rfl 0 rfl rfl ?_
              refine w_gR (q := 294) hx (dc kL_lacked_2 25 rfl) ff_L_0 lk_L_10 rfl (fun v27 => ?_)
              refine j_iload_n (q := 295) hx (dc kL_lacked_2 26 rfl) rfl 1 rfl rfl ?_
              refine j_bipush (q := 297) (v := (9 : Int32)) hx (dc kL_lacked_2 27 rfl) (by decide) rfl ?_
              refine w_cVIW (q := 300) (As := [.int x1, .int (9 : Int32)]) (st := []) hx (dc kL_lacked_2 28 rfl) cf11 (by decide) rfl (cI _ my_X11_of lm_L_253 (by decide)) vs_X11_of rfl (fun u hu => sX11_of _ _ _ _ _ _ _ hu) (fun e => ite_ne (by unfold mX11_of at e; exact e)) (Nat.zero_le _) rfl (fun v28 h29 => ?_)
              refine j_iload (q := 302) hx (dc kL_lacked_2 29 rfl) 4 rfl rfl ?_
              refine j_icmp_neS (q := 305) (tgt := 309) hx (dc kL_lacked_2 30 rfl) (by decide) rfl ?_ ?_
              · refine j_iconst (q := 310) (v := (0 : Int32)) hx (dc kL_lacked_2 33 rfl) (by decide) rfl ?_
                exact r_cW hx (Or.inl rfl) hR (dc kL_lacked_2 34 rfl)
              · refine j_iconst (q := 306) (v := (1 : Int32)) hx (dc kL_lacked_2 31 rfl) (by decide) rfl ?_
                refine j_goto (q := 310) hx (dc kL_lacked_2 32 rfl) (by decide) ?_
                exact r_cW hx (Or.inr rfl) hR (dc kL_lacked_2 34 rfl)
      · refine j_iload_n (q := 201) hx (dc kL_lacked_1 43 rfl) rfl 2 rfl rfl ?_
        refine j_iload (q := 203) hx (dc kL_lacked_1 44 rfl) 6 rfl rfl ?_
        refine j_ishr (q := 204) hx (dc kL_lacked_1 45 rfl) rfl ?_
        refine j_iconst (q := 205) (v := (1 : Int32)) hx (dc kL_lacked_1 46 rfl) (by decide) rfl ?_
        refine j_iand (q := 206) hx (dc kL_lacked_1 47 rfl) rfl ?_
        refine j_if_neS (q := 209) (tgt := 212) hx (dc kL_lacked_1 48 rfl) (by decide) rfl ?_ ?_
        · refine j_aload_n (q := 213) hx (dc kL_lacked_1 50 rfl) rfl 0 rfl rfl ?_
          refine w_gR (q := 216) hx (dc kL_lacked_1 51 rfl) ff_L_0 lk_L_10 rfl (fun v30 => ?_)
          refine j_iload_n (q := 217) hx (dc kL_lacked_1 52 rfl) rfl 1 rfl rfl ?_
          refine j_bipush (q := 219) (v := (9 : Int32)) hx (dc kL_lacked_1 53 rfl) (by decide) rfl ?_
          refine w_cVIW (q := 222) (As := [.int x1, .int (9 : Int32)]) (st := []) hx (dc kL_lacked_1 54 rfl) cf11 (by decide) rfl (cI _ my_X11_of lm_L_253 (by decide)) vs_X11_of rfl (fun u hu => sX11_of _ _ _ _ _ _ _ hu) (fun e => ite_ne (by unfold mX11_of at e; exact e)) (Nat.zero_le _) rfl (fun v31 h32 => ?_)
          refine j_if_eq (q := 225) (tgt := 245) hx (dc kL_lacked_1 55 rfl) (by decide) Iff.rfl rfl ?_ ?_
          · refine j_exit ?_
            refine j_iconst (q := 246) (v := (0 : Int32)) hx (dc kL_lacked_2 3 rfl) (by decide) rfl ?_
            exact r_cW hx (Or.inl rfl) hR (dc kL_lacked_2 4 rfl)
          · refine j_aload_n (q := 226) hx (dc kL_lacked_1 56 rfl) rfl 0 rfl rfl ?_
            refine w_gR (q := 229) hx (dc kL_lacked_1 57 rfl) ff_L_0 lk_L_10 rfl (fun v33 => ?_)
            refine j_iload_n (q := 230) hx (dc kL_lacked_1 58 rfl) rfl 1 rfl rfl ?_
            refine j_iload (q := 232) hx (dc kL_lacked_1 59 rfl) 6 rfl rfl ?_
            refine j_iload (q := 234) hx (dc kL_lacked_1 60 rfl) 3 rfl rfl ?_
            refine j_iload (q := 236) hx (dc kL_lacked_1 61 rfl) 6 rfl rfl ?_
            refine j_ishr (q := 237) hx (dc kL_lacked_1 62 rfl) rfl ?_
            refine j_iconst (q := 238) (v := (1 : Int32)) hx (dc kL_lacked_1 63 rfl) (by decide) rfl ?_
            refine j_iand (q := 239) hx (dc kL_lacked_2 0 rfl) rfl ?_
            refine w_cVIW (q := 242) (As := [.int x1, .int x7, .int ((x4 >>> (x7 &&& 31)) &&& (1 : Int32))]) (st := []) hx (dc kL_lacked_2 1 rfl) cf11 (by decide) rfl (cI _ my_X11_say lm_L_299 (by decide)) vs_X11_say rfl (fun u hu => sX11_say _ _ _ _ _ _ _ _ hu) (fun e => ite_ne (by unfold mX11_say at e; exact e)) (Nat.zero_le _) rfl (fun v34 h35 => ?_)
            refine j_if_geS (q := 245) (tgt := 247) hx (dc kL_lacked_2 2 rfl) (by decide) rfl ?_ ?_
            · refine j_iinc (q := 250) (l2 := [(0, vR x.2.2.2 x0), (1, .int x1), (3, .int x3), (4, .int x4), (5, .int x5), (7, .int x7)]) hx (dc kL_lacked_2 5 rfl) 5 rfl (v := (1 : Int32)) (by decide) (hn 6 (by decide)) [0, 1, 2, 3, 4, 6] rfl ⟨⟨show (0 : Nat) ≠ 6 by decide, Or.inl (show (0 : Nat) + 1 ≠ 6 by decide)⟩, ⟨⟨show (1 : Nat) ≠ 6 by decide, Or.inl (show (1 : Nat) + 1 ≠ 6 by decide)⟩, ⟨⟨show (3 : Nat) ≠ 6 by decide, Or.inl (show (3 : Nat) + 1 ≠ 6 by decide)⟩, ⟨⟨show (4 : Nat) ≠ 6 by decide, Or.inl (show (4 : Nat) + 1 ≠ 6 by decide)⟩, ⟨⟨show (5 : Nat) ≠ 6 by decide, Or.inr rfl⟩, ⟨⟨show (7 : Nat) ≠ 6 by decide, Or.inl (show (7 : Nat) + 1 ≠ 6 by decide)⟩, trivial⟩⟩⟩⟩⟩⟩ rfl ?_
              exact j_sub [1, 2, 3, 4, 5, 0, 6] rfl (hb250 x0 x1 x3 x4 x5 (x6 + (1 : Int32)) x7 h35)
            · refine j_exit ?_
              refine j_iconst (q := 246) (v := (0 : Int32)) hx (dc kL_lacked_2 3 rfl) (by decide) rfl ?_
              exact r_cW hx (Or.inl rfl) hR (dc kL_lacked_2 4 rfl)
        · refine j_goto (q := 250) hx (dc kL_lacked_1 49 rfl) (by decide) ?_
          exact hb250 x0 x1 x3 x4 x5 x6 x7 h
    exact j_loop (S := (Int32 × Int32 × Hp)) (lvf := fun s => [(0, vR x.2.2.2 x0), (1, .int x1), (3, .int x3), (4, .int x4), (5, .int x5), (6, .int s.1), (7, .int s.2.1)]) (hpf := fun s => s.2.2) (f := (fun s : (Int32 × Int32 × Hp) => mL_lacked_l191f x0 x1 x3 x4 x5 s.1 s.2.1 s.2.2)) (fun s => hB s.1 s.2.1 s.2.2) (x6, x7, h)
  have hb137 : ∀ (x0 : Nat) (x1 : Int32) (x2 : Int32) (x3 : Int32) (x4 : Int32) (x5 : Int32) (x6 : Int32) (h : Hp), J x 137 [(0, vR x.2.2.2 x0), (1, .int x1), (2, .int x2), (3, .int x3), (4, .int x4), (5, .int x5), (6, .int x6)] [] h (mL_lacked_b137 x0 x1 x2 x3 x4 x5 x6 h) (fun r => r = u) := by
    intro x0 x1 x2 x3 x4 x5 x6 h
    unfold mL_lacked_b137
    refine j_iload_n (q := 138) hx (dc kL_lacked_1 9 rfl) rfl 2 rfl rfl ?_
    refine j_iconst (q := 139) (v := (1 : Int32)) hx (dc kL_lacked_1 10 rfl) (by decide) rfl ?_
    refine j_icmp_geS (q := 142) (tgt := 163) hx (dc kL_lacked_1 11 rfl) (by decide) rfl ?_ ?_
    · refine j_iload_n (q := 164) hx (dc kL_lacked_1 23 rfl) rfl 3 rfl rfl ?_
      refine w_cSIR (q := 167) (As := [.int x3]) (st := []) hx (dc kL_lacked_1 24 rfl) (cI _ my_J6_bitCount_0f7a4 lm_L_343 (by decide)) st_J6_bitCount_0f7a4 rfl (fun u hu => sJ6_bitCount_0f7a4 _ _ _ _ _ hu) (Nat.zero_le _) rfl (fun v13 => ?_)
      refine j_iload_n (q := 168) hx (dc kL_lacked_1 25 rfl) rfl 2 rfl rfl ?_
      refine j_icmp_neS (q := 171) (tgt := 186) hx (dc kL_lacked_1 26 rfl) (by decide) rfl ?_ ?_
      · refine j_iconst (q := 187) (v := (0 : Int32)) hx (dc kL_lacked_1 35 rfl) (by decide) rfl ?_
        exact r_cW hx (Or.inl rfl) hR (dc kL_lacked_1 36 rfl)
      · refine j_iload_n (q := 172) hx (dc kL_lacked_1 27 rfl) rfl 3 rfl rfl ?_
        refine j_aload_n (q := 173) hx (dc kL_lacked_1 28 rfl) rfl 0 rfl rfl ?_
        refine w_gR (q := 176) hx (dc kL_lacked_1 29 rfl) ff_L_0 lk_L_10 rfl (fun v15 => ?_)
        refine j_iload_n (q := 177) hx (dc kL_lacked_1 30 rfl) rfl 1 rfl rfl ?_
        refine j_bipush (q := 179) (v := (7 : Int32)) hx (dc kL_lacked_1 31 rfl) (by decide) rfl ?_
        refine w_cVIW (q := 182) (As := [.int x1, .int (7 : Int32)]) (st := [.int x3]) hx (dc kL_lacked_1 32 rfl) cf11 (by decide) rfl (cI _ my_X11_of lm_L_253 (by decide)) vs_X11_of rfl (fun u hu => sX11_of _ _ _ _ _ _ _ hu) (fun e => ite_ne (by unfold mX11_of at e; exact e)) (sum_le (sum_I sum_nil) (by decide)) rfl (fun v16 h17 => ?_)
        refine j_iand (q := 183) hx (dc kL_lacked_1 33 rfl) rfl ?_
        refine j_if_eq (q := 186) (tgt := 188) hx (dc kL_lacked_1 34 rfl) (by decide) Iff.rfl rfl ?_ ?_
        · refine j_iconst (q := 189) (v := (0 : Int32)) hx (dc kL_lacked_1 37 rfl) (by decide) rfl ?_
          refine j_istore (q := 191) (i := 7) (l2 := [(0, vR x.2.2.2 x0), (1, .int x1), (3, .int x3), (4, .int x4), (5, .int x5), (6, .int x6)]) hx (dc kL_lacked_1 38 rfl) (hn 7 (by decide)) [0, 1, 3, 4, 5, 6] rfl ⟨⟨show (0 : Nat) ≠ 7 by decide, Or.inl (show (0 : Nat) + 1 ≠ 7 by decide)⟩, ⟨⟨show (1 : Nat) ≠ 7 by decide, Or.inl (show (1 : Nat) + 1 ≠ 7 by decide)⟩, ⟨⟨show (3 : Nat) ≠ 7 by decide, Or.inl (show (3 : Nat) + 1 ≠ 7 by decide)⟩, ⟨⟨show (4 : Nat) ≠ 7 by decide, Or.inl (show (4 : Nat) + 1 ≠ 7 by decide)⟩, ⟨⟨show (5 : Nat) ≠ 7 by decide, Or.inl (show (5 : Nat) + 1 ≠ 7 by decide)⟩, ⟨⟨show (6 : Nat) ≠ 7 by decide, Or.inr rfl⟩, trivial⟩⟩⟩⟩⟩⟩ rfl ?_
          exact j_sub [1, 2, 3, 4, 5, 6, 0] rfl (hb191 x0 x1 x3 x4 x5 x6 (0 : Int32) h17)
        · refine j_iconst (q := 187) (v := (0 : Int32)) hx (dc kL_lacked_1 35 rfl) (by decide) rfl ?_
          exact r_cW hx (Or.inl rfl) hR (dc kL_lacked_1 36 rfl)
    · refine j_iload_n (q := 143) hx (dc kL_lacked_1 12 rfl) rfl 2 rfl rfl ?_
      refine j_bipush (q := 145) (v := (-2 : Int32)) hx (dc kL_lacked_1 13 rfl) (by decide) rfl ?_
      refine j_icmp_eq (q := 148) (tgt := 157) hx (dc kL_lacked_1 14 rfl) (by decide) Iff.rfl rfl ?_ ?_
      · refine j_iconst (q := 158) (v := (1 : Int32)) hx (dc kL_lacked_1 19 rfl) (by decide) rfl ?_
        refine j_goto (q := 162) hx (dc kL_lacked_1 20 rfl) (by decide) ?_
        exact r_cW hx (Or.inr rfl) hR (dc kL_lacked_1 22 rfl)
      · refine j_iload_n (q := 149) hx (dc kL_lacked_1 15 rfl) rfl 3 rfl rfl ?_
        refine j_if_neS (q := 152) (tgt := 161) hx (dc kL_lacked_1 16 rfl) (by decide) rfl ?_ ?_
        · refine j_iconst (q := 162) (v := (0 : Int32)) hx (dc kL_lacked_1 21 rfl) (by decide) rfl ?_
          exact r_cW hx (Or.inl rfl) hR (dc kL_lacked_1 22 rfl)
        · refine j_iload (q := 154) hx (dc kL_lacked_1 17 rfl) 4 rfl rfl ?_
          refine j_if_neS (q := 157) (tgt := 161) hx (dc kL_lacked_1 18 rfl) (by decide) rfl ?_ ?_
          · refine j_iconst (q := 162) (v := (0 : Int32)) hx (dc kL_lacked_1 21 rfl) (by decide) rfl ?_
            exact r_cW hx (Or.inl rfl) hR (dc kL_lacked_1 22 rfl)
          · refine j_iconst (q := 158) (v := (1 : Int32)) hx (dc kL_lacked_1 19 rfl) (by decide) rfl ?_
            refine j_goto (q := 162) hx (dc kL_lacked_1 20 rfl) (by decide) ?_
            exact r_cW hx (Or.inr rfl) hR (dc kL_lacked_1 22 rfl)
  have hb123 : ∀ (x0 : Nat) (x1 : Int32) (x2 : Int32) (x3 : Int32) (x4 : Int32) (x5 : Int32) (x6 : Int32) (h : Hp), J x 123 [(0, vR x.2.2.2 x0), (1, .int x1), (2, .int x2), (3, .int x3), (4, .int x4), (5, .int x5), (6, .int x6)] [] h (mL_lacked_b123 x0 x1 x2 x3 x4 x5 x6 h) (fun r => r = u) := by
    intro x0 x1 x2 x3 x4 x5 x6 h
    unfold mL_lacked_b123
    refine j_iload (q := 125) hx (dc kL_lacked_1 1 rfl) 5 rfl rfl ?_
    refine j_iconst (q := 126) (v := (4 : Int32)) hx (dc kL_lacked_1 2 rfl) (by decide) rfl ?_
    refine j_icmp_neS (q := 129) (tgt := 137) hx (dc kL_lacked_1 3 rfl) (by decide) rfl ?_ ?_
    · exact hb137 x0 x1 x2 x3 x4 x5 x6 h
    · refine j_iload_n (q := 130) hx (dc kL_lacked_1 4 rfl) rfl 2 rfl rfl ?_
      refine j_bipush (q := 132) (v := (-2 : Int32)) hx (dc kL_lacked_1 5 rfl) (by decide) rfl ?_
      refine j_icmp_eq (q := 135) (tgt := 137) hx (dc kL_lacked_1 6 rfl) (by decide) Iff.rfl rfl ?_ ?_
      · exact hb137 x0 x1 x2 x3 x4 x5 x6 h
      · refine j_iconst (q := 136) (v := (0 : Int32)) hx (dc kL_lacked_1 7 rfl) (by decide) rfl ?_
        exact r_cW hx (Or.inl rfl) hR (dc kL_lacked_1 8 rfl)
  have hb108 : ∀ (x0 : Nat) (x1 : Int32) (x2 : Int32) (x3 : Int32) (x4 : Int32) (x5 : Int32) (x6 : Int32) (t0 : Int32) (t1 : Int32) (h : Hp), J x 108 [(0, vR x.2.2.2 x0), (1, .int x1), (2, .int x2), (3, .int x3), (4, .int x4), (5, .int x5), (6, .int x6)] [.int t1, .int t0] h (mL_lacked_b108 x0 x1 x2 x3 x4 x5 x6 t0 t1 h) (fun r => r = u) := by
    intro x0 x1 x2 x3 x4 x5 x6 t0 t1 h
    unfold mL_lacked_b108
    refine j_icmp_neS (q := 111) (tgt := 135) hx (dc kL_lacked_0 58 rfl) (by decide) rfl ?_ ?_
    · refine j_iconst (q := 136) (v := (0 : Int32)) hx (dc kL_lacked_1 7 rfl) (by decide) rfl ?_
      exact r_cW hx (Or.inl rfl) hR (dc kL_lacked_1 8 rfl)
    · refine j_iload (q := 113) hx (dc kL_lacked_0 59 rfl) 5 rfl rfl ?_
      refine j_iconst (q := 114) (v := (1 : Int32)) hx (dc kL_lacked_0 60 rfl) (by decide) rfl ?_
      refine j_icmp_neS (q := 117) (tgt := 123) hx (dc kL_lacked_0 61 rfl) (by decide) rfl ?_ ?_
      · exact hb123 x0 x1 x2 x3 x4 x5 x6 h
      · refine j_iload_n (q := 118) hx (dc kL_lacked_0 62 rfl) rfl 2 rfl rfl ?_
        refine j_bipush (q := 120) (v := (-2 : Int32)) hx (dc kL_lacked_0 63 rfl) (by decide) rfl ?_
        refine j_icmp_neS (q := 123) (tgt := 135) hx (dc kL_lacked_1 0 rfl) (by decide) rfl ?_ ?_
        · refine j_iconst (q := 136) (v := (0 : Int32)) hx (dc kL_lacked_1 7 rfl) (by decide) rfl ?_
          exact r_cW hx (Or.inl rfl) hR (dc kL_lacked_1 8 rfl)
        · exact hb123 x0 x1 x2 x3 x4 x5 x6 h
  have hb98 : ∀ (x0 : Nat) (x1 : Int32) (x2 : Int32) (x3 : Int32) (x4 : Int32) (x5 : Int32) (x6 : Int32) (t0 : Int32) (h : Hp), J x 98 [(0, vR x.2.2.2 x0), (1, .int x1), (2, .int x2), (3, .int x3), (4, .int x4), (5, .int x5), (6, .int x6)] [.int t0] h (mL_lacked_b98 x0 x1 x2 x3 x4 x5 x6 t0 h) (fun r => r = u) := by
    intro x0 x1 x2 x3 x4 x5 x6 t0 h
    unfold mL_lacked_b98
    refine j_iload (q := 100) hx (dc kL_lacked_0 53 rfl) 4 rfl rfl ?_
    refine j_if_geS (q := 103) (tgt := 107) hx (dc kL_lacked_0 54 rfl) (by decide) rfl ?_ ?_
    · refine j_iconst (q := 108) (v := (0 : Int32)) hx (dc kL_lacked_0 57 rfl) (by decide) rfl ?_
      exact hb108 x0 x1 x2 x3 x4 x5 x6 t0 (0 : Int32) h
    · refine j_iconst (q := 104) (v := (1 : Int32)) hx (dc kL_lacked_0 55 rfl) (by decide) rfl ?_
      refine j_goto (q := 108) hx (dc kL_lacked_0 56 rfl) (by decide) ?_
      exact hb108 x0 x1 x2 x3 x4 x5 x6 t0 (1 : Int32) h
  have hb86 : ∀ (x0 : Nat) (x1 : Int32) (x2 : Int32) (x3 : Int32) (x4 : Int32) (x5 : Int32) (x6 : Int32) (t0 : Int32) (t1 : Int32) (h : Hp), J x 86 [(0, vR x.2.2.2 x0), (1, .int x1), (2, .int x2), (3, .int x3), (4, .int x4), (5, .int x5), (6, .int x6)] [.int t1, .int t0] h (mL_lacked_b86 x0 x1 x2 x3 x4 x5 x6 t0 t1 h) (fun r => r = u) := by
    intro x0 x1 x2 x3 x4 x5 x6 t0 t1 h
    unfold mL_lacked_b86
    refine j_icmp_neS (q := 89) (tgt := 135) hx (dc kL_lacked_0 47 rfl) (by decide) rfl ?_ ?_
    · refine j_iconst (q := 136) (v := (0 : Int32)) hx (dc kL_lacked_1 7 rfl) (by decide) rfl ?_
      exact r_cW hx (Or.inl rfl) hR (dc kL_lacked_1 8 rfl)
    · refine j_iload_n (q := 90) hx (dc kL_lacked_0 48 rfl) rfl 2 rfl rfl ?_
      refine j_if_geS (q := 93) (tgt := 97) hx (dc kL_lacked_0 49 rfl) (by decide) rfl ?_ ?_
      · refine j_iconst (q := 98) (v := (0 : Int32)) hx (dc kL_lacked_0 52 rfl) (by decide) rfl ?_
        exact hb98 x0 x1 x2 x3 x4 x5 x6 (0 : Int32) h
      · refine j_iconst (q := 94) (v := (1 : Int32)) hx (dc kL_lacked_0 50 rfl) (by decide) rfl ?_
        refine j_goto (q := 98) hx (dc kL_lacked_0 51 rfl) (by decide) ?_
        exact hb98 x0 x1 x2 x3 x4 x5 x6 (1 : Int32) h
  have hb77 : ∀ (x0 : Nat) (x1 : Int32) (x2 : Int32) (x3 : Int32) (x4 : Int32) (x5 : Int32) (x6 : Int32) (t0 : Int32) (h : Hp), J x 77 [(0, vR x.2.2.2 x0), (1, .int x1), (2, .int x2), (3, .int x3), (4, .int x4), (5, .int x5), (6, .int x6)] [.int t0] h (mL_lacked_b77 x0 x1 x2 x3 x4 x5 x6 t0 h) (fun r => r = u) := by
    intro x0 x1 x2 x3 x4 x5 x6 t0 h
    unfold mL_lacked_b77
    refine j_iload_n (q := 78) hx (dc kL_lacked_0 42 rfl) rfl 3 rfl rfl ?_
    refine j_if_geS (q := 81) (tgt := 85) hx (dc kL_lacked_0 43 rfl) (by decide) rfl ?_ ?_
    · refine j_iconst (q := 86) (v := (0 : Int32)) hx (dc kL_lacked_0 46 rfl) (by decide) rfl ?_
      exact hb86 x0 x1 x2 x3 x4 x5 x6 t0 (0 : Int32) h
    · refine j_iconst (q := 82) (v := (1 : Int32)) hx (dc kL_lacked_0 44 rfl) (by decide) rfl ?_
      refine j_goto (q := 86) hx (dc kL_lacked_0 45 rfl) (by decide) ?_
      exact hb86 x0 x1 x2 x3 x4 x5 x6 t0 (1 : Int32) h
  have hb65 : ∀ (x0 : Nat) (x1 : Int32) (x2 : Int32) (x3 : Int32) (x4 : Int32) (x5 : Int32) (x6 : Int32) (t0 : Int32) (t1 : Int32) (h : Hp), J x 65 [(0, vR x.2.2.2 x0), (1, .int x1), (2, .int x2), (3, .int x3), (4, .int x4), (5, .int x5), (6, .int x6)] [.int t1, .int t0] h (mL_lacked_b65 x0 x1 x2 x3 x4 x5 x6 t0 t1 h) (fun r => r = u) := by
    intro x0 x1 x2 x3 x4 x5 x6 t0 t1 h
    unfold mL_lacked_b65
    refine j_icmp_neS (q := 68) (tgt := 135) hx (dc kL_lacked_0 36 rfl) (by decide) rfl ?_ ?_
    · refine j_iconst (q := 136) (v := (0 : Int32)) hx (dc kL_lacked_1 7 rfl) (by decide) rfl ?_
      exact r_cW hx (Or.inl rfl) hR (dc kL_lacked_1 8 rfl)
    · refine j_iload_n (q := 69) hx (dc kL_lacked_0 37 rfl) rfl 2 rfl rfl ?_
      refine j_if_geS (q := 72) (tgt := 76) hx (dc kL_lacked_0 38 rfl) (by decide) rfl ?_ ?_
      · refine j_iconst (q := 77) (v := (0 : Int32)) hx (dc kL_lacked_0 41 rfl) (by decide) rfl ?_
        exact hb77 x0 x1 x2 x3 x4 x5 x6 (0 : Int32) h
      · refine j_iconst (q := 73) (v := (1 : Int32)) hx (dc kL_lacked_0 39 rfl) (by decide) rfl ?_
        refine j_goto (q := 77) hx (dc kL_lacked_0 40 rfl) (by decide) ?_
        exact hb77 x0 x1 x2 x3 x4 x5 x6 (1 : Int32) h
  have hb55 : ∀ (x0 : Nat) (x1 : Int32) (x2 : Int32) (x3 : Int32) (x4 : Int32) (x5 : Int32) (x6 : Int32) (t0 : Int32) (h : Hp), J x 55 [(0, vR x.2.2.2 x0), (1, .int x1), (2, .int x2), (3, .int x3), (4, .int x4), (5, .int x5), (6, .int x6)] [.int t0] h (mL_lacked_b55 x0 x1 x2 x3 x4 x5 x6 t0 h) (fun r => r = u) := by
    intro x0 x1 x2 x3 x4 x5 x6 t0 h
    unfold mL_lacked_b55
    refine j_iload (q := 57) hx (dc kL_lacked_0 31 rfl) 5 rfl rfl ?_
    refine j_if_neS (q := 60) (tgt := 64) hx (dc kL_lacked_0 32 rfl) (by decide) rfl ?_ ?_
    · refine j_iconst (q := 65) (v := (0 : Int32)) hx (dc kL_lacked_0 35 rfl) (by decide) rfl ?_
      exact hb65 x0 x1 x2 x3 x4 x5 x6 t0 (0 : Int32) h
    · refine j_iconst (q := 61) (v := (1 : Int32)) hx (dc kL_lacked_0 33 rfl) (by decide) rfl ?_
      refine j_goto (q := 65) hx (dc kL_lacked_0 34 rfl) (by decide) ?_
      exact hb65 x0 x1 x2 x3 x4 x5 x6 t0 (1 : Int32) h
  unfold mL_lacked
  refine J.ckd fun hck => ?_
  refine j_aload_n (q := 1) hx (dc kL_lacked_0 0 rfl) rfl 0 rfl rfl ?_
  refine w_gR (q := 4) hx (dc kL_lacked_0 1 rfl) ff_L_0 lk_L_10 rfl (fun v1 => ?_)
  refine j_iload_n (q := 5) hx (dc kL_lacked_0 2 rfl) rfl 1 rfl rfl ?_
  refine j_iconst (q := 6) (v := (0 : Int32)) hx (dc kL_lacked_0 3 rfl) (by decide) rfl ?_
  refine w_cVIW (q := 9) (As := [.int x1, .int (0 : Int32)]) (st := []) hx (dc kL_lacked_0 4 rfl) cf11 (by decide) rfl (cI _ my_X11_lacks lm_L_382 (by decide)) vs_X11_lacks rfl (fun u hu => sX11_lacks _ _ _ _ _ _ _ hu) (fun e => ite_ne (by unfold mX11_lacks at e; exact e)) (Nat.zero_le _) rfl (fun v2 h3 => ?_)
  refine j_istore_n (q := 10) (i := 2) (l2 := [(0, vR x.2.2.2 x0), (1, .int x1)]) hx (dc kL_lacked_0 5 rfl) rfl (hn 2 (by decide)) [0, 1] rfl ⟨⟨show (0 : Nat) ≠ 2 by decide, Or.inl (show (0 : Nat) + 1 ≠ 2 by decide)⟩, ⟨⟨show (1 : Nat) ≠ 2 by decide, Or.inr rfl⟩, trivial⟩⟩ rfl ?_
  refine j_aload_n (q := 11) hx (dc kL_lacked_0 6 rfl) rfl 1 rfl rfl ?_
  refine w_gR (q := 14) hx (dc kL_lacked_0 7 rfl) ff_L_0 lk_L_10 rfl (fun v4 => ?_)
  refine j_iload_n (q := 15) hx (dc kL_lacked_0 8 rfl) rfl 2 rfl rfl ?_
  refine j_iconst (q := 16) (v := (1 : Int32)) hx (dc kL_lacked_0 9 rfl) (by decide) rfl ?_
  refine w_cVIW (q := 19) (As := [.int x1, .int (1 : Int32)]) (st := []) hx (dc kL_lacked_0 10 rfl) cf11 (by decide) rfl (cI _ my_X11_lacks lm_L_382 (by decide)) vs_X11_lacks rfl (fun u hu => sX11_lacks _ _ _ _ _ _ _ hu) (fun e => ite_ne (by unfold mX11_lacks at e; exact e)) (Nat.zero_le _) rfl (fun v5 h6 => ?_)
  refine j_istore_n (q := 20) (i := 3) (l2 := [(2, .int v2), (0, vR x.2.2.2 x0), (1, .int x1)]) hx (dc kL_lacked_0 11 rfl) rfl (hn 3 (by decide)) [0, 1, 2] rfl ⟨⟨show (2 : Nat) ≠ 3 by decide, Or.inr rfl⟩, ⟨⟨show (0 : Nat) ≠ 3 by decide, Or.inl (show (0 : Nat) + 1 ≠ 3 by decide)⟩, ⟨⟨show (1 : Nat) ≠ 3 by decide, Or.inl (show (1 : Nat) + 1 ≠ 3 by decide)⟩, trivial⟩⟩⟩ rfl ?_
  refine j_aload_n (q := 21) hx (dc kL_lacked_0 12 rfl) rfl 2 rfl rfl ?_
  refine w_gR (q := 24) hx (dc kL_lacked_0 13 rfl) ff_L_0 lk_L_10 rfl (fun v7 => ?_)
  refine j_iload_n (q := 25) hx (dc kL_lacked_0 14 rfl) rfl 3 rfl rfl ?_
  refine j_iconst (q := 26) (v := (2 : Int32)) hx (dc kL_lacked_0 15 rfl) (by decide) rfl ?_
  refine w_cVIW (q := 29) (As := [.int x1, .int (2 : Int32)]) (st := []) hx (dc kL_lacked_0 16 rfl) cf11 (by decide) rfl (cI _ my_X11_lacks lm_L_382 (by decide)) vs_X11_lacks rfl (fun u hu => sX11_lacks _ _ _ _ _ _ _ hu) (fun e => ite_ne (by unfold mX11_lacks at e; exact e)) (Nat.zero_le _) rfl (fun v8 h9 => ?_)
  refine j_istore (q := 31) (i := 4) (l2 := [(3, .int v5), (2, .int v2), (0, vR x.2.2.2 x0), (1, .int x1)]) hx (dc kL_lacked_0 17 rfl) (hn 4 (by decide)) [0, 1, 2, 3] rfl ⟨⟨show (3 : Nat) ≠ 4 by decide, Or.inr rfl⟩, ⟨⟨show (2 : Nat) ≠ 4 by decide, Or.inl (show (2 : Nat) + 1 ≠ 4 by decide)⟩, ⟨⟨show (0 : Nat) ≠ 4 by decide, Or.inl (show (0 : Nat) + 1 ≠ 4 by decide)⟩, ⟨⟨show (1 : Nat) ≠ 4 by decide, Or.inl (show (1 : Nat) + 1 ≠ 4 by decide)⟩, trivial⟩⟩⟩⟩ rfl ?_
  refine j_aload_n (q := 32) hx (dc kL_lacked_0 18 rfl) rfl 3 rfl rfl ?_
  refine w_gR (q := 35) hx (dc kL_lacked_0 19 rfl) ff_L_0 lk_L_10 rfl (fun v10 => ?_)
  refine j_iload_n (q := 36) hx (dc kL_lacked_0 20 rfl) rfl 4 rfl rfl ?_
  refine j_bipush (q := 38) (v := (9 : Int32)) hx (dc kL_lacked_0 21 rfl) (by decide) rfl ?_
  refine w_cVIW (q := 41) (As := [.int x1, .int (9 : Int32)]) (st := []) hx (dc kL_lacked_0 22 rfl) cf11 (by decide) rfl (cI _ my_X11_of lm_L_253 (by decide)) vs_X11_of rfl (fun u hu => sX11_of _ _ _ _ _ _ _ hu) (fun e => ite_ne (by unfold mX11_of at e; exact e)) (Nat.zero_le _) rfl (fun v11 h12 => ?_)
  refine j_istore (q := 43) (i := 5) (l2 := [(4, .int v8), (3, .int v5), (2, .int v2), (0, vR x.2.2.2 x0), (1, .int x1)]) hx (dc kL_lacked_0 23 rfl) (hn 5 (by decide)) [0, 1, 2, 3, 4] rfl ⟨⟨show (4 : Nat) ≠ 5 by decide, Or.inr rfl⟩, ⟨⟨show (3 : Nat) ≠ 5 by decide, Or.inl (show (3 : Nat) + 1 ≠ 5 by decide)⟩, ⟨⟨show (2 : Nat) ≠ 5 by decide, Or.inl (show (2 : Nat) + 1 ≠ 5 by decide)⟩, ⟨⟨show (0 : Nat) ≠ 5 by decide, Or.inl (show (0 : Nat) + 1 ≠ 5 by decide)⟩, ⟨⟨show (1 : Nat) ≠ 5 by decide, Or.inl (show (1 : Nat) + 1 ≠ 5 by decide)⟩, trivial⟩⟩⟩⟩⟩ rfl ?_
  refine j_iconst (q := 44) (v := (0 : Int32)) hx (dc kL_lacked_0 24 rfl) (by decide) rfl ?_
  refine j_istore (q := 46) (i := 6) (l2 := [(5, .int v11), (4, .int v8), (3, .int v5), (2, .int v2), (0, vR x.2.2.2 x0), (1, .int x1)]) hx (dc kL_lacked_0 25 rfl) (hn 6 (by decide)) [0, 1, 2, 3, 4, 5] rfl ⟨⟨show (5 : Nat) ≠ 6 by decide, Or.inr rfl⟩, ⟨⟨show (4 : Nat) ≠ 6 by decide, Or.inl (show (4 : Nat) + 1 ≠ 6 by decide)⟩, ⟨⟨show (3 : Nat) ≠ 6 by decide, Or.inl (show (3 : Nat) + 1 ≠ 6 by decide)⟩, ⟨⟨show (2 : Nat) ≠ 6 by decide, Or.inl (show (2 : Nat) + 1 ≠ 6 by decide)⟩, ⟨⟨show (0 : Nat) ≠ 6 by decide, Or.inl (show (0 : Nat) + 1 ≠ 6 by decide)⟩, ⟨⟨show (1 : Nat) ≠ 6 by decide, Or.inl (show (1 : Nat) + 1 ≠ 6 by decide)⟩, trivial⟩⟩⟩⟩⟩⟩ rfl ?_
  refine j_iload_n (q := 47) hx (dc kL_lacked_0 26 rfl) rfl 4 rfl rfl ?_
  refine j_if_neS (q := 50) (tgt := 54) hx (dc kL_lacked_0 27 rfl) (by decide) rfl ?_ ?_
  · refine j_iconst (q := 55) (v := (0 : Int32)) hx (dc kL_lacked_0 30 rfl) (by decide) rfl ?_
    exact j_sub [5, 6, 4, 3, 2, 1, 0] rfl (hb55 x0 x1 v2 v5 v8 v11 (0 : Int32) (0 : Int32) h12)
  · refine j_iconst (q := 51) (v := (1 : Int32)) hx (dc kL_lacked_0 28 rfl) (by decide) rfl ?_
    refine j_goto (q := 55) hx (dc kL_lacked_0 29 rfl) (by decide) ?_
    exact j_sub [5, 6, 4, 3, 2, 1, 0] rfl (hb55 x0 x1 v2 v5 v8 v11 (0 : Int32) (1 : Int32) h12)

set_option maxHeartbeats 4000000 in
set_option maxRecDepth 100000 in
theorem sL_holds (l : Launch) (w : Wd) (x0 : Nat) (x1 : Nat) (h : Hp) (u : (Int32 × Hp)) (hK : mL_holds x0 x1 h = some u) : M1 l w mi_L_holds 51 [vR w x0, vR w x1] h u.2 (some (.int u.1)) := by
  refine M1.of (own := RL) (T := fun _ r => r = u) hK (by decide +kernel) rfl (by first | (simp only [lg_lenR, lg_lenI, lg_lenL, lg_len0]; decide) | decide) (fun x hx hnl hhf hl hw hret hnm hQ h0e => ⟨?_, rfl⟩)
  subst hw
  subst hl
  have hR : Rt x h u.2 (some (.int u.1)) ((some .boolean)) := ⟨h0e, hhf, hret, hQ⟩
  have hn : ∀ i, i < 7 → i < x.2.2.1.1.1 := fun i hi => by rw [hnl]; exact hi
  have e0 : lv_args 0 [vR x.2.2.2 x0, vR x.2.2.2 x1] = [(0, vR x.2.2.2 x0), (1, vR x.2.2.2 x1)] := by simp only [lv_argsR, lv_argsI, lv_argsL, lv_args0]
  rw [e0]
  have hb7 : ∀ (x0 : Nat) (x2 : Int32) (h : Hp), J x 7 [(0, vR x.2.2.2 x0), (2, .int x2)] [] h (mL_holds_l7 x0 x2 h) (fun r => r = u) := by
    intro x0 x2 h
    have hB : ∀ (x2 : Int32) (h : Hp), J x 7 [(0, vR x.2.2.2 x0), (2, .int x2)] [] h (mL_holds_l7f x0 x2 h) (TLo (S := (Int32 × Hp)) x 7 (fun s => [(0, vR x.2.2.2 x0), (2, .int s.1)]) [] (fun s => s.2) (fun r => r = u)) := by
      intro x2 h
      have hb41 : ∀ (x0 : Nat) (x2 : Int32) (x3 : Int32) (h : Hp), J x 41 [(0, vR x.2.2.2 x0), (2, .int x2), (3, .int x3)] [] h (mL_holds_l41 x0 x2 x3 h) (TLo (S := (Int32 × Hp)) x 7 (fun s => [(0, vR x.2.2.2 x0), (2, .int s.1)]) [] (fun s => s.2) (fun r => r = u)) := by
        intro x0 x2 x3 h
        have hB : ∀ (x3 : Int32) (h : Hp), J x 41 [(0, vR x.2.2.2 x0), (2, .int x2), (3, .int x3)] [] h (mL_holds_l41f x0 x2 x3 h) (TLo (S := (Int32 × Hp)) x 41 (fun s => [(0, vR x.2.2.2 x0), (2, .int x2), (3, .int s.1)]) [] (fun s => s.2) (TLo (S := (Int32 × Hp)) x 7 (fun s => [(0, vR x.2.2.2 x0), (2, .int s.1)]) [] (fun s => s.2) (fun r => r = u))) := by
          intro x3 h
          have hb214 : ∀ (x0 : Nat) (x2 : Int32) (x3 : Int32) (x4 : Int32) (h : Hp), J x 214 [(0, vR x.2.2.2 x0), (2, .int x2), (3, .int x3), (4, .int x4)] [] h (mL_holds_b214 x0 x2 x3 x4 h) (TLo (S := (Int32 × Hp)) x 41 (fun s => [(0, vR x.2.2.2 x0), (2, .int x2), (3, .int s.1)]) [] (fun s => s.2) (TLo (S := (Int32 × Hp)) x 7 (fun s => [(0, vR x.2.2.2 x0), (2, .int s.1)]) [] (fun s => s.2) (fun r => r = u))) := by
            intro x0 x2 x3 x4 h
            unfold mL_holds_b214
            refine j_aload_n (q := 215) hx (dc kL_holds_1 47 rfl) rfl 0 rfl rfl ?_
            refine w_cVIW (q := 218) (As := []) (st := []) hx (dc kL_holds_1 48 rfl) cf15 (by decide) rfl (cI _ my_L_paid lm_L_409 (by decide)) vs_L_paid rfl (fun u hu => sL_paid _ _ _ _ _ hu) (fun e => ite_ne (by unfold mL_paid at e; exact e)) (Nat.zero_le _) rfl (fun v24 h25 => ?_)
            refine j_if_eq (q := 221) (tgt := 249) hx (dc kL_holds_1 49 rfl) (by decide) Iff.rfl rfl ?_ ?_
            · refine j_exit ?_
              refine j_exit ?_
              refine j_iconst (q := 250) (v := (0 : Int32)) hx (dc kL_holds_1 63 rfl) (by decide) rfl ?_
              exact r_cW hx (Or.inl rfl) hR (dc kL_holds_2 0 rfl)
            · refine j_aload_n (q := 222) hx (dc kL_holds_1 50 rfl) rfl 0 rfl rfl ?_
              refine w_cVIW (q := 225) (As := []) (st := []) hx (dc kL_holds_1 51 rfl) cf15 (by decide) rfl (cI _ my_L_digest lm_L_290 (by decide)) vs_L_digest rfl (fun u hu => sL_digest _ _ _ _ _ hu) (fun e => ite_ne (by unfold mL_digest at e; exact e)) (Nat.zero_le _) rfl (fun v26 h27 => ?_)
              refine j_iload (q := 227) hx (dc kL_holds_1 52 rfl) 3 rfl rfl ?_
              refine j_icmp_neS (q := 230) (tgt := 249) hx (dc kL_holds_1 53 rfl) (by decide) rfl ?_ ?_
              · refine j_exit ?_
                refine j_exit ?_
                refine j_iconst (q := 250) (v := (0 : Int32)) hx (dc kL_holds_1 63 rfl) (by decide) rfl ?_
                exact r_cW hx (Or.inl rfl) hR (dc kL_holds_2 0 rfl)
              · refine j_aload_n (q := 231) hx (dc kL_holds_1 54 rfl) rfl 0 rfl rfl ?_
                refine j_iconst (q := 232) (v := (3 : Int32)) hx (dc kL_holds_1 55 rfl) (by decide) rfl ?_
                refine w_cVIW (q := 235) (As := [.int (3 : Int32)]) (st := []) hx (dc kL_holds_1 56 rfl) cf15 (by decide) rfl (cI _ my_L_acts lm_L_392 (by decide)) vs_L_acts rfl (fun u hu => sL_acts _ _ _ _ _ _ hu) (fun e => ite_ne (by unfold mL_acts at e; exact e)) (Nat.zero_le _) rfl (fun v28 h29 => ?_)
                refine j_if_eq (q := 238) (tgt := 249) hx (dc kL_holds_1 57 rfl) (by decide) Iff.rfl rfl ?_ ?_
                · refine j_exit ?_
                  refine j_exit ?_
                  refine j_iconst (q := 250) (v := (0 : Int32)) hx (dc kL_holds_1 63 rfl) (by decide) rfl ?_
                  exact r_cW hx (Or.inl rfl) hR (dc kL_holds_2 0 rfl)
                · refine j_aload_n (q := 239) hx (dc kL_holds_1 58 rfl) rfl 0 rfl rfl ?_
                  refine w_gR (q := 242) hx (dc kL_holds_1 59 rfl) ff_L_0 lk_L_10 rfl (fun v30 => ?_)
                  refine j_iload_n (q := 243) hx (dc kL_holds_1 60 rfl) rfl 2 rfl rfl ?_
                  refine w_cVIW (q := 246) (As := [.int x3]) (st := []) hx (dc kL_holds_1 61 rfl) cf11 (by decide) rfl (cI _ my_X11_again lm_L_412 (by decide)) vs_X11_again rfl (fun u hu => sX11_again _ _ _ _ _ _ hu) (fun e => ite_ne (by unfold mX11_again at e; exact e)) (Nat.zero_le _) rfl (fun v31 h32 => ?_)
                  refine j_if_neS (q := 249) (tgt := 251) hx (dc kL_holds_1 62 rfl) (by decide) rfl ?_ ?_
                  · refine j_aload_n (q := 252) hx (dc kL_holds_2 1 rfl) rfl 0 rfl rfl ?_
                    refine w_gR (q := 255) hx (dc kL_holds_2 2 rfl) ff_L_0 lk_L_10 rfl (fun v33 => ?_)
                    refine j_bipush (q := 257) (v := (7 : Int32)) hx (dc kL_holds_2 3 rfl) (by decide) rfl ?_
                    refine w_cVIW (q := 260) (As := [.int (7 : Int32)]) (st := []) hx (dc kL_holds_2 4 rfl) cf11 (by decide) rfl (cI _ my_X11_count lm_L_251 (by decide)) vs_X11_count rfl (fun u hu => sX11_count _ _ _ _ _ _ hu) (fun e => ite_ne (by unfold mX11_count at e; exact e)) (Nat.zero_le _) rfl (fun v34 h35 => ?_)
                    refine j_istore (q := 262) (i := 6) (l2 := [(0, vR x.2.2.2 x0), (2, .int x2), (3, .int x3), (4, .int x4)]) hx (dc kL_holds_2 5 rfl) (hn 6 (by decide)) [0, 1, 2, 3] rfl ⟨⟨show (0 : Nat) ≠ 6 by decide, Or.inl (show (0 : Nat) + 1 ≠ 6 by decide)⟩, ⟨⟨show (2 : Nat) ≠ 6 by decide, Or.inl (show (2 : Nat) + 1 ≠ 6 by decide)⟩, ⟨⟨show (3 : Nat) ≠ 6 by decide, Or.inl (show (3 : Nat) + 1 ≠ 6 by decide)⟩, ⟨⟨show (4 : Nat) ≠ 6 by decide, Or.inl (show (4 : Nat) + 1 ≠ 6 by decide)⟩, trivial⟩⟩⟩⟩ rfl ?_
                    refine j_aload_n (q := 263) hx (dc kL_holds_2 6 rfl) rfl 1 rfl rfl ?_
                    refine w_cVIW (q := 266) (As := []) (st := []) hx (dc kL_holds_2 7 rfl) cf15 (by decide) rfl (cI _ my_L_digest lm_L_290 (by decide)) vs_L_digest rfl (fun u hu => sL_digest _ _ _ _ _ hu) (fun e => ite_ne (by unfold mL_digest at e; exact e)) (Nat.zero_le _) rfl (fun v36 h37 => ?_)
                    refine j_iload (q := 268) hx (dc kL_holds_2 8 rfl) 4 rfl rfl ?_
                    refine j_icmp_neS (q := 271) (tgt := 285) hx (dc kL_holds_2 9 rfl) (by decide) rfl ?_ ?_
                    · refine j_exit ?_
                      refine j_exit ?_
                      refine j_iconst (q := 286) (v := (0 : Int32)) hx (dc kL_holds_2 17 rfl) (by decide) rfl ?_
                      exact r_cW hx (Or.inl rfl) hR (dc kL_holds_2 18 rfl)
                    · refine j_aload_n (q := 272) hx (dc kL_holds_2 10 rfl) rfl 1 rfl rfl ?_
                      refine w_gR (q := 275) hx (dc kL_holds_2 11 rfl) ff_L_0 lk_L_10 rfl (fun v38 => ?_)
                      refine w_cVIW (q := 278) (As := []) (st := []) hx (dc kL_holds_2 12 rfl) cf11 (by decide) rfl (cI _ my_X11_undo lm_L_287 (by decide)) vs_X11_undo rfl (fun u hu => sX11_undo _ _ _ _ _ hu) (fun e => ite_ne (by unfold mX11_undo at e; exact e)) (Nat.zero_le _) rfl (fun v39 h40 => ?_)
                      refine j_iload (q := 280) hx (dc kL_holds_2 13 rfl) 0 rfl rfl ?_
                      refine j_iconst (q := 281) (v := (1 : Int32)) hx (dc kL_holds_2 14 rfl) (by decide) rfl ?_
                      refine j_isub (q := 282) hx (dc kL_holds_2 15 rfl) rfl ?_
                      refine j_icmp_eq (q := 285) (tgt := 287) hx (dc kL_holds_2 16 rfl) (by decide) Iff.rfl rfl ?_ ?_
                      · refine j_iinc (q := 290) (l2 := [(0, vR x.2.2.2 x0), (2, .int x2)]) hx (dc kL_holds_2 19 rfl) 3 rfl (v := (1 : Int32)) (by decide) (hn 3 (by decide)) [1, 2] rfl ⟨⟨show (0 : Nat) ≠ 3 by decide, Or.inl (show (0 : Nat) + 1 ≠ 3 by decide)⟩, ⟨⟨show (2 : Nat) ≠ 3 by decide, Or.inr rfl⟩, trivial⟩⟩ rfl ?_
                        refine j_goto (q := 41) hx (dc kL_holds_2 20 rfl) (by decide) ?_
                        exact j_back [1, 2, 0] ((x3 + (1 : Int32)), h40) rfl rfl
                      · refine j_exit ?_
                        refine j_exit ?_
                        refine j_iconst (q := 286) (v := (0 : Int32)) hx (dc kL_holds_2 17 rfl) (by decide) rfl ?_
                        exact r_cW hx (Or.inl rfl) hR (dc kL_holds_2 18 rfl)
                  · refine j_exit ?_
                    refine j_exit ?_
                    refine j_iconst (q := 250) (v := (0 : Int32)) hx (dc kL_holds_1 63 rfl) (by decide) rfl ?_
                    exact r_cW hx (Or.inl rfl) hR (dc kL_holds_2 0 rfl)
          have hb153 : ∀ (x0 : Nat) (x2 : Int32) (x3 : Int32) (x4 : Int32) (x5 : Int32) (x6 : Int32) (h : Hp), J x 153 [(0, vR x.2.2.2 x0), (2, .int x2), (3, .int x3), (4, .int x4), (5, .int x5), (6, .int x6)] [] h (mL_holds_l153 x0 x2 x3 x4 x5 x6 h) (TLo (S := (Int32 × Hp)) x 41 (fun s => [(0, vR x.2.2.2 x0), (2, .int x2), (3, .int s.1)]) [] (fun s => s.2) (TLo (S := (Int32 × Hp)) x 7 (fun s => [(0, vR x.2.2.2 x0), (2, .int s.1)]) [] (fun s => s.2) (fun r => r = u))) := by
            intro x0 x2 x3 x4 x5 x6 h
            have hB : ∀ (x6 : Int32) (h : Hp), J x 153 [(0, vR x.2.2.2 x0), (2, .int x2), (3, .int x3), (4, .int x4), (5, .int x5), (6, .int x6)] [] h (mL_holds_l153f x0 x2 x3 x4 x5 x6 h) (TLo (S := (Int32 × Hp)) x 153 (fun s => [(0, vR x.2.2.2 x0), (2, .int x2), (3, .int x3), (4, .int x4), (5, .int x5), (6, .int s.1)]) [] (fun s => s.2) (TLo (S := (Int32 × Hp)) x 41 (fun s => [(0, vR x.2.2.2 x0), (2, .int x2), (3, .int s.1)]) [] (fun s => s.2) (TLo (S := (Int32 × Hp)) x 7 (fun s => [(0, vR x.2.2.2 x0), (2, .int s.1)]) [] (fun s => s.2) (fun r => r = u)))) := by
              intro x6 h
              have hb208 : ∀ (x0 : Nat) (x2 : Int32) (x3 : Int32) (x4 : Int32) (x5 : Int32) (x6 : Int32) (h : Hp), J x 208 [(0, vR x.2.2.2 x0), (2, .int x2), (3, .int x3), (4, .int x4), (5, .int x5), (6, .int x6)] [] h (mL_holds_b208 x0 x2 x3 x4 x5 x6 h) (TLo (S := (Int32 × Hp)) x 153 (fun s => [(0, vR x.2.2.2 x0), (2, .int x2), (3, .int x3), (4, .int x4), (5, .int x5), (6, .int s.1)]) [] (fun s => s.2) (TLo (S := (Int32 × Hp)) x 41 (fun s => [(0, vR x.2.2.2 x0), (2, .int x2), (3, .int s.1)]) [] (fun s => s.2) (TLo (S := (Int32 × Hp)) x 7 (fun s => [(0, vR x.2.2.2 x0), (2, .int s.1)]) [] (fun s => s.2) (fun r => r = u)))) := by
                intro x0 x2 x3 x4 x5 x6 h
                unfold mL_holds_b208
                refine j_iinc (q := 211) (l2 := [(0, vR x.2.2.2 x0), (2, .int x2), (3, .int x3), (4, .int x4), (5, .int x5)]) hx (dc kL_holds_1 45 rfl) 5 rfl (v := (1 : Int32)) (by decide) (hn 6 (by decide)) [0, 1, 2, 3, 4] rfl ⟨⟨show (0 : Nat) ≠ 6 by decide, Or.inl (show (0 : Nat) + 1 ≠ 6 by decide)⟩, ⟨⟨show (2 : Nat) ≠ 6 by decide, Or.inl (show (2 : Nat) + 1 ≠ 6 by decide)⟩, ⟨⟨show (3 : Nat) ≠ 6 by decide, Or.inl (show (3 : Nat) + 1 ≠ 6 by decide)⟩, ⟨⟨show (4 : Nat) ≠ 6 by decide, Or.inl (show (4 : Nat) + 1 ≠ 6 by decide)⟩, ⟨⟨show (5 : Nat) ≠ 6 by decide, Or.inr rfl⟩, trivial⟩⟩⟩⟩⟩ rfl ?_
                refine j_goto (q := 153) hx (dc kL_holds_1 46 rfl) (by decide) ?_
                exact j_back [1, 2, 3, 4, 5, 0] ((x6 + (1 : Int32)), h) rfl rfl
              unfold mL_holds_l153f
              refine j_iload (q := 155) hx (dc kL_holds_1 18 rfl) 5 rfl rfl ?_
              refine j_aload_n (q := 156) hx (dc kL_holds_1 19 rfl) rfl 0 rfl rfl ?_
              refine w_gI (q := 159) hx (dc kL_holds_1 20 rfl) ff_L_3 lk_L_87 rfl (fun v23 => ?_)
              refine j_icmp_geS (q := 162) (tgt := 214) hx (dc kL_holds_1 21 rfl) (by decide) rfl ?_ ?_
              · refine j_exit ?_
                exact j_sub [0, 1, 2, 3] rfl (hb214 x0 x2 x3 x4 h)
              · refine j_aload_n (q := 163) hx (dc kL_holds_1 22 rfl) rfl 0 rfl rfl ?_
                refine w_gR (q := 166) hx (dc kL_holds_1 23 rfl) ff_L_0 lk_L_10 rfl (fun v41 => ?_)
                refine j_iconst (q := 167) (v := (2 : Int32)) hx (dc kL_holds_1 24 rfl) (by decide) rfl ?_
                refine w_cVIW (q := 170) (As := [.int (2 : Int32)]) (st := []) hx (dc kL_holds_1 25 rfl) cf11 (by decide) rfl (cI _ my_X11_count lm_L_251 (by decide)) vs_X11_count rfl (fun u hu => sX11_count _ _ _ _ _ _ hu) (fun e => ite_ne (by unfold mX11_count at e; exact e)) (Nat.zero_le _) rfl (fun v42 h43 => ?_)
                refine j_if_leS (q := 173) (tgt := 214) hx (dc kL_holds_1 26 rfl) (by decide) rfl ?_ ?_
                · refine j_exit ?_
                  exact j_sub [0, 1, 2, 3] rfl (hb214 x0 x2 x3 x4 h43)
                · refine j_aload_n (q := 174) hx (dc kL_holds_1 27 rfl) rfl 0 rfl rfl ?_
                  refine w_gR (q := 177) hx (dc kL_holds_1 28 rfl) ff_L_0 lk_L_10 rfl (fun v44 => ?_)
                  refine j_iload (q := 179) hx (dc kL_holds_1 29 rfl) 5 rfl rfl ?_
                  refine j_iconst (q := 180) (v := (2 : Int32)) hx (dc kL_holds_1 30 rfl) (by decide) rfl ?_
                  refine w_cVIR (q := 183) (As := [.int x6, .int (2 : Int32)]) (st := []) hx (dc kL_holds_1 31 rfl) cf11 (by decide) rfl (cI _ my_X11_fact lm_L_272 (by decide)) vs_X11_fact rfl (fun u hu => sX11_fact _ _ _ _ _ _ _ hu) (fun e => ite_ne (by unfold mX11_fact at e; exact e)) (Nat.zero_le _) rfl (fun v45 => ?_)
                  refine j_iconst (q := 184) (v := (2 : Int32)) hx (dc kL_holds_1 32 rfl) (by decide) rfl ?_
                  refine j_icmp_neS (q := 187) (tgt := 208) hx (dc kL_holds_1 33 rfl) (by decide) rfl ?_ ?_
                  · exact hb208 x0 x2 x3 x4 x5 x6 h43
                  · refine j_aload_n (q := 188) hx (dc kL_holds_1 34 rfl) rfl 0 rfl rfl ?_
                    refine j_iconst (q := 189) (v := (2 : Int32)) hx (dc kL_holds_1 35 rfl) (by decide) rfl ?_
                    refine w_cVIW (q := 192) (As := [.int (2 : Int32)]) (st := []) hx (dc kL_holds_1 36 rfl) cf15 (by decide) rfl (cI _ my_L_draw lm_L_75 (by decide)) vs_L_draw rfl (fun u hu => sL_draw _ _ _ _ _ _ hu) (fun e => ite_ne (by unfold mL_draw at e; exact e)) (Nat.zero_le _) rfl (fun v47 h48 => ?_)
                    refine j_if_neS (q := 195) (tgt := 208) hx (dc kL_holds_1 37 rfl) (by decide) rfl ?_ ?_
                    · exact hb208 x0 x2 x3 x4 x5 x6 h48
                    · refine j_aload_n (q := 196) hx (dc kL_holds_1 38 rfl) rfl 0 rfl rfl ?_
                      refine j_iload (q := 198) hx (dc kL_holds_1 39 rfl) 4 rfl rfl ?_
                      refine j_iload (q := 200) hx (dc kL_holds_1 40 rfl) 5 rfl rfl ?_
                      refine w_cVIW (q := 203) (As := [.int x5, .int x6]) (st := []) hx (dc kL_holds_1 41 rfl) cf15 (by decide) rfl (cI _ my_L_weighed lm_L_406 (by decide)) vs_L_weighed rfl (fun u hu => sL_weighed _ _ _ _ _ _ _ hu) (fun e => ite_ne (by unfold mL_weighed at e; exact e)) (Nat.zero_le _) rfl (fun v49 h50 => ?_)
                      refine j_if_neS (q := 206) (tgt := 208) hx (dc kL_holds_1 42 rfl) (by decide) rfl ?_ ?_
                      · exact hb208 x0 x2 x3 x4 x5 x6 h50
                      · refine j_exit ?_
                        refine j_exit ?_
                        refine j_exit ?_
                        refine j_iconst (q := 207) (v := (0 : Int32)) hx (dc kL_holds_1 43 rfl) (by decide) rfl ?_
                        exact r_cW hx (Or.inl rfl) hR (dc kL_holds_1 44 rfl)
            exact j_loop (S := (Int32 × Hp)) (lvf := fun s => [(0, vR x.2.2.2 x0), (2, .int x2), (3, .int x3), (4, .int x4), (5, .int x5), (6, .int s.1)]) (hpf := fun s => s.2) (f := (fun s : (Int32 × Hp) => mL_holds_l153f x0 x2 x3 x4 x5 s.1 s.2)) (fun s => hB s.1 s.2) (x6, h)
          have hb150 : ∀ (x0 : Nat) (x2 : Int32) (x3 : Int32) (x4 : Int32) (x5 : Int32) (h : Hp), J x 150 [(0, vR x.2.2.2 x0), (2, .int x2), (3, .int x3), (4, .int x4), (5, .int x5)] [] h (mL_holds_b150 x0 x2 x3 x4 x5 h) (TLo (S := (Int32 × Hp)) x 41 (fun s => [(0, vR x.2.2.2 x0), (2, .int x2), (3, .int s.1)]) [] (fun s => s.2) (TLo (S := (Int32 × Hp)) x 7 (fun s => [(0, vR x.2.2.2 x0), (2, .int s.1)]) [] (fun s => s.2) (fun r => r = u))) := by
            intro x0 x2 x3 x4 x5 h
            unfold mL_holds_b150
            refine j_iconst (q := 151) (v := (0 : Int32)) hx (dc kL_holds_1 16 rfl) (by decide) rfl ?_
            refine j_istore (q := 153) (i := 6) (l2 := [(0, vR x.2.2.2 x0), (2, .int x2), (3, .int x3), (4, .int x4), (5, .int x5)]) hx (dc kL_holds_1 17 rfl) (hn 6 (by decide)) [0, 1, 2, 3, 4] rfl ⟨⟨show (0 : Nat) ≠ 6 by decide, Or.inl (show (0 : Nat) + 1 ≠ 6 by decide)⟩, ⟨⟨show (2 : Nat) ≠ 6 by decide, Or.inl (show (2 : Nat) + 1 ≠ 6 by decide)⟩, ⟨⟨show (3 : Nat) ≠ 6 by decide, Or.inl (show (3 : Nat) + 1 ≠ 6 by decide)⟩, ⟨⟨show (4 : Nat) ≠ 6 by decide, Or.inl (show (4 : Nat) + 1 ≠ 6 by decide)⟩, ⟨⟨show (5 : Nat) ≠ 6 by decide, Or.inr rfl⟩, trivial⟩⟩⟩⟩⟩ rfl ?_
            exact j_sub [1, 2, 3, 4, 5, 0] rfl (hb153 x0 x2 x3 x4 x5 (0 : Int32) h)
          unfold mL_holds_l41f
          refine j_iload_n (q := 42) hx (dc kL_holds_0 25 rfl) rfl 2 rfl rfl ?_
          refine j_iconst (q := 43) (v := (2 : Int32)) hx (dc kL_holds_0 26 rfl) (by decide) rfl ?_
          refine j_icmp_geS (q := 46) (tgt := 293) hx (dc kL_holds_0 27 rfl) (by decide) rfl ?_ ?_
          · refine j_exit ?_
            refine j_iinc (q := 296) (l2 := [(0, vR x.2.2.2 x0)]) hx (dc kL_holds_2 21 rfl) 1 rfl (v := (1 : Int32)) (by decide) (hn 2 (by decide)) [0] rfl ⟨⟨show (0 : Nat) ≠ 2 by decide, Or.inl (show (0 : Nat) + 1 ≠ 2 by decide)⟩, trivial⟩ rfl ?_
            refine j_goto (q := 7) hx (dc kL_holds_2 22 rfl) (by decide) ?_
            exact j_back [1, 0] ((x2 + (1 : Int32)), h) rfl rfl
          · refine j_aload_n (q := 47) hx (dc kL_holds_0 28 rfl) rfl 0 rfl rfl ?_
            refine j_iconst (q := 48) (v := (3 : Int32)) hx (dc kL_holds_0 29 rfl) (by decide) rfl ?_
            refine j_aload_n (q := 49) hx (dc kL_holds_0 30 rfl) rfl 0 rfl rfl ?_
            refine j_bipush (q := 51) (v := (6 : Int32)) hx (dc kL_holds_0 31 rfl) (by decide) rfl ?_
            refine w_cVIW (q := 54) (As := [.int (6 : Int32)]) (st := [.int (3 : Int32), vR x.2.2.2 x0]) hx (dc kL_holds_0 32 rfl) cf15 (by decide) rfl (cI _ my_L_draw lm_L_75 (by decide)) vs_L_draw rfl (fun u hu => sL_draw _ _ _ _ _ _ hu) (fun e => ite_ne (by unfold mL_draw at e; exact e)) (sum_le (sum_I (sum_R sum_nil)) (by decide)) rfl (fun v6 h7 => ?_)
            refine j_iadd (q := 55) hx (dc kL_holds_0 33 rfl) rfl ?_
            refine w_cVIW (q := 58) (As := [.int ((3 : Int32) + v6)]) (st := []) hx (dc kL_holds_0 34 rfl) cf15 (by decide) rfl (cI _ my_L_acts lm_L_392 (by decide)) vs_L_acts rfl (fun u hu => sL_acts _ _ _ _ _ _ hu) (fun e => ite_ne (by unfold mL_acts at e; exact e)) (Nat.zero_le _) rfl (fun v8 h9 => ?_)
            refine j_if_eq (q := 61) (tgt := 72) hx (dc kL_holds_0 35 rfl) (by decide) Iff.rfl rfl ?_ ?_
            · refine j_exit ?_
              refine j_exit ?_
              refine j_iconst (q := 73) (v := (0 : Int32)) hx (dc kL_holds_0 41 rfl) (by decide) rfl ?_
              exact r_cW hx (Or.inl rfl) hR (dc kL_holds_0 42 rfl)
            · refine j_aload_n (q := 62) hx (dc kL_holds_0 36 rfl) rfl 0 rfl rfl ?_
              refine w_gR (q := 65) hx (dc kL_holds_0 37 rfl) ff_L_0 lk_L_10 rfl (fun v10 => ?_)
              refine j_iload_n (q := 66) hx (dc kL_holds_0 38 rfl) rfl 2 rfl rfl ?_
              refine w_cVIW (q := 69) (As := [.int x3]) (st := []) hx (dc kL_holds_0 39 rfl) cf11 (by decide) rfl (cI _ my_X11_keep lm_L_395 (by decide)) vs_X11_keep rfl (fun u hu => sX11_keep _ _ _ _ _ _ hu) (fun e => ite_ne (by unfold mX11_keep at e; exact e)) (Nat.zero_le _) rfl (fun v11 h12 => ?_)
              refine j_if_neS (q := 72) (tgt := 74) hx (dc kL_holds_0 40 rfl) (by decide) rfl ?_ ?_
              · refine j_aload_n (q := 75) hx (dc kL_holds_0 43 rfl) rfl 0 rfl rfl ?_
                refine w_cVIW (q := 78) (As := []) (st := []) hx (dc kL_holds_0 44 rfl) cf15 (by decide) rfl (cI _ my_L_digest lm_L_290 (by decide)) vs_L_digest rfl (fun u hu => sL_digest _ _ _ _ _ hu) (fun e => ite_ne (by unfold mL_digest at e; exact e)) (Nat.zero_le _) rfl (fun v13 h14 => ?_)
                refine j_istore (q := 80) (i := 4) (l2 := [(0, vR x.2.2.2 x0), (2, .int x2), (3, .int x3)]) hx (dc kL_holds_0 45 rfl) (hn 4 (by decide)) [0, 1, 2] rfl ⟨⟨show (0 : Nat) ≠ 4 by decide, Or.inl (show (0 : Nat) + 1 ≠ 4 by decide)⟩, ⟨⟨show (2 : Nat) ≠ 4 by decide, Or.inl (show (2 : Nat) + 1 ≠ 4 by decide)⟩, ⟨⟨show (3 : Nat) ≠ 4 by decide, Or.inr rfl⟩, trivial⟩⟩⟩ rfl ?_
                refine j_aload_n (q := 81) hx (dc kL_holds_0 46 rfl) rfl 1 rfl rfl ?_
                refine j_iconst (q := 82) (v := (1 : Int32)) hx (dc kL_holds_0 47 rfl) (by decide) rfl ?_
                refine j_aload_n (q := 83) hx (dc kL_holds_0 48 rfl) rfl 1 rfl rfl ?_
                refine w_gR (q := 86) hx (dc kL_holds_0 49 rfl) ff_L_0 lk_L_10 rfl (fun v15 => ?_)
                refine j_iconst (q := 87) (v := (2 : Int32)) hx (dc kL_holds_0 50 rfl) (by decide) rfl ?_
                refine w_cVIW (q := 90) (As := [.int (2 : Int32)]) (st := [.int (1 : Int32), vR x.2.2.2 x0]) hx (dc kL_holds_0 51 rfl) cf11 (by decide) rfl (cI _ my_X11_count lm_L_251 (by decide)) vs_X11_count rfl (fun u hu => sX11_count _ _ _ _ _ _ hu) (fun e => ite_ne (by unfold mX11_count at e; exact e)) (sum_le (sum_I (sum_R sum_nil)) (by decide)) rfl (fun v16 h17 => ?_)
                refine w_mmax (q := 93) hx (dc kL_holds_0 52 rfl) lm_L_44 ms_mmax ms_init mc_mmax (by decide) (sum_le (sum_R sum_nil) (by decide)) rfl ?_
                refine w_cVIW (q := 96) (As := [.int (mmax (1 : Int32) v16)]) (st := []) hx (dc kL_holds_0 53 rfl) cf15 (by decide) rfl (cI _ my_L_draw lm_L_75 (by decide)) vs_L_draw rfl (fun u hu => sL_draw _ _ _ _ _ _ hu) (fun e => ite_ne (by unfold mL_draw at e; exact e)) (Nat.zero_le _) rfl (fun v18 h19 => ?_)
                refine j_istore (q := 98) (i := 5) (l2 := [(4, .int v13), (0, vR x.2.2.2 x0), (2, .int x2), (3, .int x3)]) hx (dc kL_holds_0 54 rfl) (hn 5 (by decide)) [0, 1, 2, 3] rfl ⟨⟨show (4 : Nat) ≠ 5 by decide, Or.inr rfl⟩, ⟨⟨show (0 : Nat) ≠ 5 by decide, Or.inl (show (0 : Nat) + 1 ≠ 5 by decide)⟩, ⟨⟨show (2 : Nat) ≠ 5 by decide, Or.inl (show (2 : Nat) + 1 ≠ 5 by decide)⟩, ⟨⟨show (3 : Nat) ≠ 5 by decide, Or.inl (show (3 : Nat) + 1 ≠ 5 by decide)⟩, trivial⟩⟩⟩⟩ rfl ?_
                refine j_aload_n (q := 99) hx (dc kL_holds_0 55 rfl) rfl 2 rfl rfl ?_
                refine w_gR (q := 102) hx (dc kL_holds_0 56 rfl) ff_L_0 lk_L_10 rfl (fun v20 => ?_)
                refine j_iconst (q := 103) (v := (2 : Int32)) hx (dc kL_holds_0 57 rfl) (by decide) rfl ?_
                refine w_cVIW (q := 106) (As := [.int (2 : Int32)]) (st := []) hx (dc kL_holds_0 58 rfl) cf11 (by decide) rfl (cI _ my_X11_count lm_L_251 (by decide)) vs_X11_count rfl (fun u hu => sX11_count _ _ _ _ _ _ hu) (fun e => ite_ne (by unfold mX11_count at e; exact e)) (Nat.zero_le _) rfl (fun v21 h22 => ?_)
                refine j_if_leS (q := 109) (tgt := 150) hx (dc kL_holds_0 59 rfl) (by decide) rfl ?_ ?_
                · exact j_sub [2, 3, 4, 1, 0] rfl (hb150 x0 x2 x3 v13 v18 h22)
                · refine j_aload_n (q := 110) hx (dc kL_holds_0 60 rfl) rfl 2 rfl rfl ?_
                  refine j_iload (q := 112) hx (dc kL_holds_0 61 rfl) 0 rfl rfl ?_
                  refine w_cVIW (q := 115) (As := [.int v18]) (st := []) hx (dc kL_holds_0 62 rfl) cf15 (by decide) rfl (cI _ my_L_judged lm_L_398 (by decide)) vs_L_judged rfl (fun u hu => sL_judged _ _ _ _ _ _ hu) (fun e => ite_ne (by unfold mL_judged at e; exact e)) (Nat.zero_le _) rfl (fun v51 h52 => ?_)
                  refine j_if_eq (q := 118) (tgt := 148) hx (dc kL_holds_0 63 rfl) (by decide) Iff.rfl rfl ?_ ?_
                  · refine j_exit ?_
                    refine j_exit ?_
                    refine j_iconst (q := 149) (v := (0 : Int32)) hx (dc kL_holds_1 14 rfl) (by decide) rfl ?_
                    exact r_cW hx (Or.inl rfl) hR (dc kL_holds_1 15 rfl)
                  · refine j_aload_n (q := 119) hx (dc kL_holds_1 0 rfl) rfl 2 rfl rfl ?_
                    refine j_iload (q := 121) hx (dc kL_holds_1 1 rfl) 0 rfl rfl ?_
                    refine j_aload_n (q := 122) hx (dc kL_holds_1 2 rfl) rfl 2 rfl rfl ?_
                    refine j_aload_n (q := 123) hx (dc kL_holds_1 3 rfl) rfl 2 rfl rfl ?_
                    refine w_gR (q := 126) hx (dc kL_holds_1 4 rfl) ff_L_0 lk_L_10 rfl (fun v53 => ?_)
                    refine j_iconst (q := 127) (v := (2 : Int32)) hx (dc kL_holds_1 5 rfl) (by decide) rfl ?_
                    refine w_cVIW (q := 130) (As := [.int (2 : Int32)]) (st := [vR x.2.2.2 x0, .int v18, vR x.2.2.2 x0]) hx (dc kL_holds_1 6 rfl) cf11 (by decide) rfl (cI _ my_X11_count lm_L_251 (by decide)) vs_X11_count rfl (fun u hu => sX11_count _ _ _ _ _ _ hu) (fun e => ite_ne (by unfold mX11_count at e; exact e)) (sum_le (sum_R (sum_I (sum_R sum_nil))) (by decide)) rfl (fun v54 h55 => ?_)
                    refine w_cVIW (q := 133) (As := [.int v54]) (st := [.int v18, vR x.2.2.2 x0]) hx (dc kL_holds_1 7 rfl) cf15 (by decide) rfl (cI _ my_L_draw lm_L_75 (by decide)) vs_L_draw rfl (fun u hu => sL_draw _ _ _ _ _ _ hu) (fun e => ite_ne (by unfold mL_draw at e; exact e)) (sum_le (sum_I (sum_R sum_nil)) (by decide)) rfl (fun v56 h57 => ?_)
                    refine w_cVIW (q := 136) (As := [.int v18, .int v56]) (st := []) hx (dc kL_holds_1 8 rfl) cf15 (by decide) rfl (cI _ my_L_pairs lm_L_400 (by decide)) vs_L_pairs rfl (fun u hu => sL_pairs _ _ _ _ _ _ _ hu) (fun e => ite_ne (by unfold mL_pairs at e; exact e)) (Nat.zero_le _) rfl (fun v58 h59 => ?_)
                    refine j_if_eq (q := 139) (tgt := 148) hx (dc kL_holds_1 9 rfl) (by decide) Iff.rfl rfl ?_ ?_
                    · refine j_exit ?_
                      refine j_exit ?_
                      refine j_iconst (q := 149) (v := (0 : Int32)) hx (dc kL_holds_1 14 rfl) (by decide) rfl ?_
                      exact r_cW hx (Or.inl rfl) hR (dc kL_holds_1 15 rfl)
                    · refine j_aload_n (q := 140) hx (dc kL_holds_1 10 rfl) rfl 2 rfl rfl ?_
                      refine j_iload (q := 142) hx (dc kL_holds_1 11 rfl) 0 rfl rfl ?_
                      refine w_cVIW (q := 145) (As := [.int v18]) (st := []) hx (dc kL_holds_1 12 rfl) cf15 (by decide) rfl (cI _ my_L_lacked lm_L_403 (by decide)) vs_L_lacked rfl (fun u hu => sL_lacked _ _ _ _ _ _ hu) (fun e => ite_ne (by unfold mL_lacked at e; exact e)) (Nat.zero_le _) rfl (fun v60 h61 => ?_)
                      refine j_if_neS (q := 148) (tgt := 150) hx (dc kL_holds_1 13 rfl) (by decide) rfl ?_ ?_
                      · exact j_sub [2, 3, 4, 1, 0] rfl (hb150 x0 x2 x3 v13 v18 h61)
                      · refine j_exit ?_
                        refine j_exit ?_
                        refine j_iconst (q := 149) (v := (0 : Int32)) hx (dc kL_holds_1 14 rfl) (by decide) rfl ?_
                        exact r_cW hx (Or.inl rfl) hR (dc kL_holds_1 15 rfl)
              · refine j_exit ?_
                refine j_exit ?_
                refine j_iconst (q := 73) (v := (0 : Int32)) hx (dc kL_holds_0 41 rfl) (by decide) rfl ?_
                exact r_cW hx (Or.inl rfl) hR (dc kL_holds_0 42 rfl)
        exact j_loop (S := (Int32 × Hp)) (lvf := fun s => [(0, vR x.2.2.2 x0), (2, .int x2), (3, .int s.1)]) (hpf := fun s => s.2) (f := (fun s : (Int32 × Hp) => mL_holds_l41f x0 x2 s.1 s.2)) (fun s => hB s.1 s.2) (x3, h)
      have hb24 : ∀ (x0 : Nat) (x2 : Int32) (t0 : Nat) (t1 : Int32) (h : Hp), J x 24 [(0, vR x.2.2.2 x0), (2, .int x2)] [.int t1, vR x.2.2.2 t0] h (mL_holds_b24 x0 x2 t0 t1 h) (TLo (S := (Int32 × Hp)) x 7 (fun s => [(0, vR x.2.2.2 x0), (2, .int s.1)]) [] (fun s => s.2) (fun r => r = u)) := by
        intro x0 x2 t0 t1 h
        unfold mL_holds_b24
        refine j_iconst (q := 25) (v := (1 : Int32)) hx (dc kL_holds_0 14 rfl) (by decide) rfl ?_
        refine j_aload_n (q := 26) hx (dc kL_holds_0 15 rfl) rfl 0 rfl rfl ?_
        refine j_iconst (q := 27) (v := (5 : Int32)) hx (dc kL_holds_0 16 rfl) (by decide) rfl ?_
        refine w_cVIW (q := 30) (As := [.int (5 : Int32)]) (st := [.int (1 : Int32), .int t1, vR x.2.2.2 t0]) hx (dc kL_holds_0 17 rfl) cf15 (by decide) rfl (cI _ my_L_draw lm_L_75 (by decide)) vs_L_draw rfl (fun u hu => sL_draw _ _ _ _ _ _ hu) (fun e => ite_ne (by unfold mL_draw at e; exact e)) (sum_le (sum_I (sum_I (sum_R sum_nil))) (by decide)) rfl (fun v2 h3 => ?_)
        refine j_iadd (q := 31) hx (dc kL_holds_0 18 rfl) rfl ?_
        refine w_cVIW (q := 34) (As := [.int t1, .int ((1 : Int32) + v2)]) (st := []) hx (dc kL_holds_0 19 rfl) cf15 (by decide) rfl (cI _ my_L_told lm_L_389 (by decide)) vs_L_told rfl (fun u hu => sL_told _ _ _ _ _ _ _ hu) (fun e => ite_ne (by unfold mL_told at e; exact e)) (Nat.zero_le _) rfl (fun v4 h5 => ?_)
        refine j_if_neS (q := 37) (tgt := 39) hx (dc kL_holds_0 20 rfl) (by decide) rfl ?_ ?_
        · refine j_iconst (q := 40) (v := (0 : Int32)) hx (dc kL_holds_0 23 rfl) (by decide) rfl ?_
          refine j_istore_n (q := 41) (i := 3) (l2 := [(0, vR x.2.2.2 x0), (2, .int x2)]) hx (dc kL_holds_0 24 rfl) rfl (hn 3 (by decide)) [0, 1] rfl ⟨⟨show (0 : Nat) ≠ 3 by decide, Or.inl (show (0 : Nat) + 1 ≠ 3 by decide)⟩, ⟨⟨show (2 : Nat) ≠ 3 by decide, Or.inr rfl⟩, trivial⟩⟩ rfl ?_
          exact j_sub [1, 2, 0] rfl (hb41 x0 x2 (0 : Int32) h5)
        · refine j_exit ?_
          refine j_iconst (q := 38) (v := (0 : Int32)) hx (dc kL_holds_0 21 rfl) (by decide) rfl ?_
          exact r_cW hx (Or.inl rfl) hR (dc kL_holds_0 22 rfl)
      unfold mL_holds_l7f
      refine j_iload_n (q := 8) hx (dc kL_holds_0 5 rfl) rfl 1 rfl rfl ?_
      refine j_iconst (q := 9) (v := (3 : Int32)) hx (dc kL_holds_0 6 rfl) (by decide) rfl ?_
      refine j_icmp_geS (q := 12) (tgt := 299) hx (dc kL_holds_0 7 rfl) (by decide) rfl ?_ ?_
      · refine j_exit ?_
        refine j_iconst (q := 300) (v := (1 : Int32)) hx (dc kL_holds_2 23 rfl) (by decide) rfl ?_
        exact r_cW hx (Or.inr rfl) hR (dc kL_holds_2 24 rfl)
      · refine j_aload_n (q := 13) hx (dc kL_holds_0 8 rfl) rfl 0 rfl rfl ?_
        refine j_iload_n (q := 14) hx (dc kL_holds_0 9 rfl) rfl 1 rfl rfl ?_
        refine j_if_neS (q := 17) (tgt := 22) hx (dc kL_holds_0 10 rfl) (by decide) rfl ?_ ?_
        · refine j_bipush (q := 24) (v := (6 : Int32)) hx (dc kL_holds_0 13 rfl) (by decide) rfl ?_
          exact hb24 x0 x2 x0 (6 : Int32) h
        · refine j_bipush (q := 19) (v := (8 : Int32)) hx (dc kL_holds_0 11 rfl) (by decide) rfl ?_
          refine j_goto (q := 24) hx (dc kL_holds_0 12 rfl) (by decide) ?_
          exact hb24 x0 x2 x0 (8 : Int32) h
    exact j_loop (S := (Int32 × Hp)) (lvf := fun s => [(0, vR x.2.2.2 x0), (2, .int s.1)]) (hpf := fun s => s.2) (f := (fun s : (Int32 × Hp) => mL_holds_l7f x0 s.1 s.2)) (fun s => hB s.1 s.2) (x2, h)
  unfold mL_holds
  refine J.ckd fun hck => ?_
  refine j_aload_n (q := 1) hx (dc kL_holds_0 0 rfl) rfl 0 rfl rfl ?_
  refine j_aload_n (q := 2) hx (dc kL_holds_0 1 rfl) rfl 1 rfl rfl ?_
  refine w_sR (q := 5) hx (dc kL_holds_0 2 rfl) ff_L_1 lk_L_37 (Or.inl rfl) rfl (fun h1 => ?_)
  refine j_iconst (q := 6) (v := (0 : Int32)) hx (dc kL_holds_0 3 rfl) (by decide) rfl ?_
  refine j_istore_n (q := 7) (i := 2) (l2 := [(0, vR x.2.2.2 x0)]) hx (dc kL_holds_0 4 rfl) rfl (hn 2 (by decide)) [0] rfl ⟨⟨show (0 : Nat) ≠ 2 by decide, Or.inl (show (0 : Nat) + 1 ≠ 2 by decide)⟩, trivial⟩ rfl ?_
  exact j_sub [1, 0] rfl (hb7 x0 (0 : Int32) h1)

