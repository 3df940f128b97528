section RZ
variable {x : Cx} {cc : ByteArray} {own : String} {d pc : Nat} {lv : List (Nat × Value)} {h : Hp}
theorem r_lawZ (hx : On x cc own d) {u : Int32 × Hp} {v : Int32} (R : Lw x u) (hd : decode cc pc = .ok (.ireturn, 1)) : J x pc lv [.int v] h ((z01 v).bind fun v => some (v, h)) (fun r => r = u) := by
  unfold z01
  by_cases hz : v = 0 ∨ v = 1
  · rw [if_pos hz]; exact r_law hx R hd
  · rw [if_neg hz]; intro r hr; cases hr
end RZ
set_option maxHeartbeats 4000000 in
set_option maxRecDepth 100000 in
theorem sL_law (x : Cx) (hx : On x cL_law RL 52) (hnl : x.2.2.1.1.1 = 1) (x0 : Nat) (h : Hp) (u : Int32 × Hp) (hR : Lw x u) : J x 0 [(0, vR x.2.2.2 x0)] [] h (mL_law x0 h) (fun r => r = u) := by
  have hn : ∀ i, i < 1 → i < x.2.2.1.1.1 := fun i hi => by rw [hnl]; exact hi
  unfold mL_law
  refine j_new (q := 3) hx (dc kL_law_0 0 rfl) cf15 (by decide) nw_L_11 rfl (fun v2 hvv2 h1 => ?_)
  refine j_dup (q := 4) hx (dc kL_law_0 1 rfl) (vR_cat _ _) rfl ?_
  refine w_cIVW (q := 7) (As := []) (st := [vR x.2.2.2 v2]) hx (dc kL_law_0 2 rfl) (cI _ my_L_init lm_L_385 (by decide)) is_L_init rfl rfl (fun u hu => sL_init hvv2 _ _ _ _ hu) hvv2 (sum_le (sum_R sum_nil) (by decide)) rfl (fun h4 => ?_)
  refine j_aload_n (q := 8) hx (dc kL_law_0 3 rfl) rfl 0 rfl rfl ?_
  refine w_cVIW (q := 11) (As := [vR x.2.2.2 x0]) (st := []) hx (dc kL_law_0 4 rfl) cf15 (by decide) rfl (cI _ my_L_holds lm_L_386 (by decide)) vs_L_holds rfl (fun u hu => sL_holds _ _ _ _ _ _ hu) (fun e => ite_ne (by unfold mL_holds at e; exact e)) (Nat.zero_le _) rfl (fun v5 h6 => ?_)
  exact r_lawZ hx hR (dc kL_law_0 5 rfl)
