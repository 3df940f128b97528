set_option maxHeartbeats 4000000 in
set_option maxRecDepth 100000 in
theorem sX12_init {x0 : Nat} (hvx0 : x0 ≠ 0) (l : Launch) (w : Wd) (x1 : Nat) (x2 : Nat) (h : Hp) (u : Hp) (hK : mX12_init x0 x1 x2 h = some u) : M1 l w mi_X12_init 1 [vR w x0, vR w x1, vR w x2] h u (none) := by
  refine M1.of (own := RX12) (T := fun _ r => r = u) hK (by decide +kernel) rfl (by first | (simp only [lg_lenR, lg_lenI, lg_lenL, lg_len0]; decide) | decide) (fun x hx hnl hhf hl hw hret hnm hQ h0e => ⟨?_, rfl⟩)
  subst hw
  subst hl
  have hR : Rt x h u (none) (none) := ⟨h0e, hhf, hret, hQ⟩
  have hn : ∀ i, i < 3 → i < x.2.2.1.1.1 := fun i hi => by rw [hnl]; exact hi
  have e0 : lv_args 0 [vR x.2.2.2 x0, vR x.2.2.2 x1, vR x.2.2.2 x2] = [(0, vR x.2.2.2 x0), (1, vR x.2.2.2 x1), (2, vR x.2.2.2 x2)] := by simp only [lv_argsR, lv_argsI, lv_argsL, lv_args0]
  rw [e0]
  unfold mX12_init
  refine j_aload_n (q := 1) hx (dc kX12_init_0 0 rfl) rfl 0 rfl rfl ?_
  refine j_obj (q := 4) hx (dc kX12_init_0 1 rfl) lo_X12_1 hvx0 (by decide) (Nat.zero_le _) rfl ?_
  refine j_aload_n (q := 5) hx (dc kX12_init_0 2 rfl) rfl 0 rfl rfl ?_
  refine j_aload_n (q := 6) hx (dc kX12_init_0 3 rfl) rfl 1 rfl rfl ?_
  refine w_sR (q := 9) hx (dc kX12_init_0 4 rfl) ff_X12_0 lk_X12_7 (Or.inr ⟨hnm, rfl, rfl, lt_X12_7⟩) rfl (fun h1 => ?_)
  refine j_aload_n (q := 10) hx (dc kX12_init_0 5 rfl) rfl 0 rfl rfl ?_
  refine j_aload_n (q := 11) hx (dc kX12_init_0 6 rfl) rfl 2 rfl rfl ?_
  refine w_sR (q := 14) hx (dc kX12_init_0 7 rfl) ff_X12_1 lk_X12_13 (Or.inr ⟨hnm, rfl, rfl, lt_X12_13⟩) rfl (fun h2 => ?_)
  exact r_vW hx hR (dc kX12_init_0 8 rfl)

