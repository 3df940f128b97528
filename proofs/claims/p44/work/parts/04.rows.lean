section JR
variable {x : Cx} {cc : ByteArray} {own : String} {d pc q : Nat} {lv lv' : List (Nat × Value)} {st : List Value} {h : Hp} {ρ : Type} {K : Option ρ} {T : ρ → Prop}
/-- one step of the machine that leaves the heap: from W at the next place to W here -/
theorem J.step {lv2 : List (Nat × Value)} {st2 : List Value}
    (hx : On x cc own d) (hs : Ok x cc own d → ∀ (H : Heap) (locs : List Loc) (ls : Array Slot) (ce sl : Nat), lv_has ls x.2.2.1.1.1 lv → (∀ ls2, lv_has ls2 x.2.2.1.1.1 lv2 → W x.1.1 x.1.2.1 x.1.2.2.1 x.1.2.2.2.1 x.1.2.2.2.2.1 x.1.2.2.2.2.2 x.2.1.1 x.2.1.2.1 x.2.1.2.2.1 x.2.1.2.2.2.1 H locs ce sl x.2.1.2.2.2.2 (F0 x.1.2.2.2.2.2 q ls2 st2)) →
      W x.1.1 x.1.2.1 x.1.2.2.1 x.1.2.2.2.1 x.1.2.2.2.2.1 x.1.2.2.2.2.2 x.2.1.1 x.2.1.2.1 x.2.1.2.2.1 x.2.1.2.2.2.1 H locs ce sl x.2.1.2.2.2.2 (F0 x.1.2.2.2.2.2 pc ls st))
    (k : J x q lv2 st2 h K T) : J x pc lv st h K T := by
  obtain ⟨rfl, rfl, rfl⟩ := hx
  exact fun r hr ht => ⟨(k r hr ht).1, fun hok H locs ls hl hP hS hh => hs hok H locs ls _ _ hl fun ls2 hl2 => (k r hr ht).2 hok H locs ls2 hl2 hP hS hh⟩
theorem j_iload_n (hx : On x cc own d) {k : Fin 4} {i : Nat} {v : Int32} (hd : decode cc pc = .ok (.iload_n k, 1)) (hi : (k : Nat) = i) (p : Nat) (hl : lv[p]? = some (i, .int v)) (hq : pc + 1 = q) (kk : J x q lv (.int v :: st) h K T) : J x pc lv st h K T :=
  J.step hx (fun hx H locs ls ce sl h0 k0 => lv_iload_n hx.1 hx.2.1 hd hi (lv_at h0 p hl) (hq ▸ k0 ls h0)) kk
theorem j_iload (hx : On x cc own d) {i : Nat} {v : Int32} (hd : decode cc pc = .ok (.iload i, 2)) (p : Nat) (hl : lv[p]? = some (i, .int v)) (hq : pc + 2 = q) (kk : J x q lv (.int v :: st) h K T) : J x pc lv st h K T :=
  J.step hx (fun hx H locs ls ce sl h0 k0 => lv_iload hx.1 hx.2.1 hd (lv_at h0 p hl) (hq ▸ k0 ls h0)) kk
theorem j_lload_n (hx : On x cc own d) {k : Fin 4} {i : Nat} {v : Int64} (hd : decode cc pc = .ok (.lload_n k, 1)) (hi : (k : Nat) = i) (p : Nat) (hl : lv[p]? = some (i, .long v)) (hq : pc + 1 = q) (kk : J x q lv (.long v :: st) h K T) : J x pc lv st h K T :=
  J.step hx (fun hx H locs ls ce sl h0 k0 => lv_lload_n hx.1 hx.2.1 hd hi (lv_at h0 p hl) (hq ▸ k0 ls h0)) kk
theorem j_lload (hx : On x cc own d) {i : Nat} {v : Int64} (hd : decode cc pc = .ok (.lload i, 2)) (p : Nat) (hl : lv[p]? = some (i, .long v)) (hq : pc + 2 = q) (kk : J x q lv (.long v :: st) h K T) : J x pc lv st h K T :=
  J.step hx (fun hx H locs ls ce sl h0 k0 => lv_lload hx.1 hx.2.1 hd (lv_at h0 p hl) (hq ▸ k0 ls h0)) kk
theorem j_aload_n (hx : On x cc own d) {k : Fin 4} {i : Nat} {a : Nat} (hd : decode cc pc = .ok (.aload_n k, 1)) (hi : (k : Nat) = i) (p : Nat) (hl : lv[p]? = some (i, vR x.2.2.2 a)) (hq : pc + 1 = q) (kk : J x q lv (vR x.2.2.2 a :: st) h K T) : J x pc lv st h K T :=
  J.step hx (fun hx H locs ls ce sl h0 k0 => by
    have h1 := lv_at h0 p hl
    have h2 := k0 ls h0
    subst hq
    unfold vR at h1 h2
    split at h1 <;> rename_i hz
    · rw [if_pos hz] at h2; exact lv_aload_nN hx.1 hx.2.1 hd hi h1 h2
    · rw [if_neg hz] at h2; exact lv_aload_n hx.1 hx.2.1 hd hi h1 h2) kk
theorem j_aload (hx : On x cc own d) {i : Nat} {a : Nat} (hd : decode cc pc = .ok (.aload i, 2)) (p : Nat) (hl : lv[p]? = some (i, vR x.2.2.2 a)) (hq : pc + 2 = q) (kk : J x q lv (vR x.2.2.2 a :: st) h K T) : J x pc lv st h K T :=
  J.step hx (fun hx H locs ls ce sl h0 k0 => by
    have h1 := lv_at h0 p hl
    have h2 := k0 ls h0
    subst hq
    unfold vR at h1 h2
    split at h1 <;> rename_i hz
    · rw [if_pos hz] at h2; exact lv_aloadN hx.1 hx.2.1 hd h1 h2
    · rw [if_neg hz] at h2; exact lv_aload hx.1 hx.2.1 hd h1 h2) kk
/-- which of the listed locals a store leaves: none of its own, no long whose half it takes -/
def stC (i : Nat) : List (Nat × Value) → Prop
  | [] => True
  | q :: l => (q.1 ≠ i ∧ (q.1 + 1 ≠ i ∨ q.2.category = 1)) ∧ stC i l
theorem stC.all {i : Nat} : ∀ {l : List (Nat × Value)}, stC i l → ∀ q ∈ l, q.1 ≠ i ∧ (q.1 + 1 ≠ i ∨ q.2.category = 1) := by
  intro l
  induction l with
  | nil => intro _ q hq; cases hq
  | cons a l ih =>
    intro h q hq
    rcases List.mem_cons.mp hq with e | e
    · subst e; exact h.1
    · exact ih h.2 q e
theorem lv_keep1 {ls : Array Slot} {n i : Nat} {v : Value} {ks : List Nat} {l2 : List (Nat × Value)} (hl : lv_pick lv ks = l2) (hc : stC i l2) (h : lv_has ls n ((i, v) :: lv.filter (fun q => !(q.1 == i) && !(q.1 + 1 == i && q.2.category == 2)))) : lv_has ls n ((i, v) :: l2) := by
  refine ⟨h.1, h.2.1, fun q hq => ?_⟩
  rcases List.mem_cons.mp hq with e | e
  · subst e; exact h.2.2 _ List.mem_cons_self
  · refine h.2.2 q (List.mem_cons_of_mem _ (List.mem_filter.mpr ⟨?_, ?_⟩))
    · rw [← hl] at e
      obtain ⟨k, -, hk⟩ := List.mem_filterMap.mp e
      exact List.mem_of_getElem? hk
    · obtain ⟨h1, h2⟩ := hc.all q e
      rcases h2 with h2 | h2 <;> simp [h1, h2]
theorem lv_keep2 {ls : Array Slot} {n i : Nat} {v : Value} {ks : List Nat} {l2 : List (Nat × Value)} (hl : lv_pick lv ks = l2) (hc : stC i l2) (hc2 : ∀ q ∈ l2, q.1 ≠ i + 1) (h : lv_has ls n ((i, v) :: lv.filter (fun q => !(q.1 == i) && (!(q.1 == i + 1) && !(q.1 + 1 == i && q.2.category == 2))))) : lv_has ls n ((i, v) :: l2) := by
  refine ⟨h.1, h.2.1, fun q hq => ?_⟩
  rcases List.mem_cons.mp hq with e | e
  · subst e; exact h.2.2 _ List.mem_cons_self
  · have h3 := hc2 q e
    refine h.2.2 q (List.mem_cons_of_mem _ (List.mem_filter.mpr ⟨?_, ?_⟩))
    · rw [← hl] at e
      obtain ⟨k, -, hk⟩ := List.mem_filterMap.mp e
      exact List.mem_of_getElem? hk
    · obtain ⟨h1, h2⟩ := hc.all q e
      rcases h2 with h2 | h2 <;> simp [h1, h2, h3]
theorem j_istore_n (hx : On x cc own d) {k : Fin 4} {i : Nat} {v : Int32} {l2 : List (Nat × Value)} (hd : decode cc pc = .ok (.istore_n k, 1)) (hi : (k : Nat) = i) (hn : i < x.2.2.1.1.1) (ks : List Nat) (hl : lv_pick lv ks = l2) (hc : stC i l2) (hq : pc + 1 = q) (kk : J x q ((i, .int v) :: l2) st h K T) : J x pc lv (.int v :: st) h K T :=
  J.step hx (fun hx H locs ls ce sl h0 k0 => lv_istore_n hx.1 hx.2.1 hd hi h0 hn rfl (fun ls2 h2 => hq ▸ k0 ls2 (lv_keep1 hl hc h2))) kk
theorem j_istore (hx : On x cc own d) {i : Nat} {v : Int32} {l2 : List (Nat × Value)} (hd : decode cc pc = .ok (.istore i, 2)) (hn : i < x.2.2.1.1.1) (ks : List Nat) (hl : lv_pick lv ks = l2) (hc : stC i l2) (hq : pc + 2 = q) (kk : J x q ((i, .int v) :: l2) st h K T) : J x pc lv (.int v :: st) h K T :=
  J.step hx (fun hx H locs ls ce sl h0 k0 => lv_istore hx.1 hx.2.1 hd h0 hn rfl (fun ls2 h2 => hq ▸ k0 ls2 (lv_keep1 hl hc h2))) kk
theorem j_lstore_n (hx : On x cc own d) {k : Fin 4} {i : Nat} {v : Int64} {l2 : List (Nat × Value)} (hd : decode cc pc = .ok (.lstore_n k, 1)) (hi : (k : Nat) = i) (hn : i + 1 < x.2.2.1.1.1) (ks : List Nat) (hl : lv_pick lv ks = l2) (hc : stC i l2) (hc2 : ∀ q ∈ l2, q.1 ≠ i + 1) (hq : pc + 1 = q) (kk : J x q ((i, .long v) :: l2) st h K T) : J x pc lv (.long v :: st) h K T :=
  J.step hx (fun hx H locs ls ce sl h0 k0 => lv_lstore_n hx.1 hx.2.1 hd hi h0 hn rfl (fun ls2 h2 => hq ▸ k0 ls2 (lv_keep2 hl hc hc2 h2))) kk
theorem j_lstore (hx : On x cc own d) {i : Nat} {v : Int64} {l2 : List (Nat × Value)} (hd : decode cc pc = .ok (.lstore i, 2)) (hn : i + 1 < x.2.2.1.1.1) (ks : List Nat) (hl : lv_pick lv ks = l2) (hc : stC i l2) (hc2 : ∀ q ∈ l2, q.1 ≠ i + 1) (hq : pc + 2 = q) (kk : J x q ((i, .long v) :: l2) st h K T) : J x pc lv (.long v :: st) h K T :=
  J.step hx (fun hx H locs ls ce sl h0 k0 => lv_lstore hx.1 hx.2.1 hd h0 hn rfl (fun ls2 h2 => hq ▸ k0 ls2 (lv_keep2 hl hc hc2 h2))) kk
theorem j_astore_n (hx : On x cc own d) {k : Fin 4} {i : Nat} {a : Nat} {l2 : List (Nat × Value)} (hd : decode cc pc = .ok (.astore_n k, 1)) (hi : (k : Nat) = i) (hn : i < x.2.2.1.1.1) (ks : List Nat) (hl : lv_pick lv ks = l2) (hc : stC i l2) (hq : pc + 1 = q) (kk : J x q ((i, vR x.2.2.2 a) :: l2) st h K T) : J x pc lv (vR x.2.2.2 a :: st) h K T :=
  J.step hx (fun hx H locs ls ce sl h0 k0 => by
    subst hq
    unfold vR at k0 ⊢
    split at k0 <;> rename_i hz
    · rw [if_pos hz]; exact lv_astore_nN hx.1 hx.2.1 hd hi h0 hn rfl fun ls2 h2 => k0 ls2 (lv_keep1 hl hc h2)
    · rw [if_neg hz]; exact lv_astore_n hx.1 hx.2.1 hd hi h0 hn rfl fun ls2 h2 => k0 ls2 (lv_keep1 hl hc h2)) kk
theorem j_astore (hx : On x cc own d) {i : Nat} {a : Nat} {l2 : List (Nat × Value)} (hd : decode cc pc = .ok (.astore i, 2)) (hn : i < x.2.2.1.1.1) (ks : List Nat) (hl : lv_pick lv ks = l2) (hc : stC i l2) (hq : pc + 2 = q) (kk : J x q ((i, vR x.2.2.2 a) :: l2) st h K T) : J x pc lv (vR x.2.2.2 a :: st) h K T :=
  J.step hx (fun hx H locs ls ce sl h0 k0 => by
    subst hq
    unfold vR at k0 ⊢
    split at k0 <;> rename_i hz
    · rw [if_pos hz]; exact lv_astoreN hx.1 hx.2.1 hd h0 hn rfl fun ls2 h2 => k0 ls2 (lv_keep1 hl hc h2)
    · rw [if_neg hz]; exact lv_astore hx.1 hx.2.1 hd h0 hn rfl fun ls2 h2 => k0 ls2 (lv_keep1 hl hc h2)) kk
theorem j_iinc (hx : On x cc own d) {i : Nat} {n : Int} {u v : Int32} {l2 : List (Nat × Value)} (hd : decode cc pc = .ok (.iinc i n, 3)) (p : Nat) (hp : lv[p]? = some (i, .int u)) (hv : Int32.ofInt n = v) (hn : i < x.2.2.1.1.1) (ks : List Nat) (hl : lv_pick lv ks = l2) (hc : stC i l2) (hq : pc + 3 = q) (kk : J x q ((i, .int (u + v)) :: l2) st h K T) : J x pc lv st h K T :=
  J.step hx (fun hx H locs ls ce sl h0 k0 => lv_iinc hx.1 hx.2.1 hd h0 hp (by rw [hv]) hn rfl (fun ls2 h2 => hq ▸ k0 ls2 (lv_keep1 hl hc h2))) kk
theorem j_iconst (hx : On x cc own d) {n : Int} {v : Int32} (hd : decode cc pc = .ok (.iconst n, 1)) (hv : Int32.ofInt n = v) (hq : pc + 1 = q) (kk : J x q lv (.int v :: st) h K T) : J x pc lv st h K T :=
  J.step hx (fun hx H locs ls ce sl h0 k0 => lv_iconst hx.1 hx.2.1 hd hv (hq ▸ k0 ls h0)) kk
theorem j_bipush (hx : On x cc own d) {n : Int} {v : Int32} (hd : decode cc pc = .ok (.bipush n, 2)) (hv : (Int8.ofInt n).toInt32 = v) (hq : pc + 2 = q) (kk : J x q lv (.int v :: st) h K T) : J x pc lv st h K T :=
  J.step hx (fun hx H locs ls ce sl h0 k0 => lv_bipush hx.1 hx.2.1 hd hv (hq ▸ k0 ls h0)) kk
theorem j_sipush (hx : On x cc own d) {n : Int} {v : Int32} (hd : decode cc pc = .ok (.sipush n, 3)) (hv : (Int16.ofInt n).toInt32 = v) (hq : pc + 3 = q) (kk : J x q lv (.int v :: st) h K T) : J x pc lv st h K T :=
  J.step hx (fun hx H locs ls ce sl h0 k0 => lv_sipush hx.1 hx.2.1 hd hv (hq ▸ k0 ls h0)) kk
theorem j_lconst (hx : On x cc own d) {n : Fin 2} {v : Int64} (hd : decode cc pc = .ok (.lconst n, 1)) (hv : Int64.ofNat (n : Nat) = v) (hq : pc + 1 = q) (kk : J x q lv (.long v :: st) h K T) : J x pc lv st h K T :=
  J.step hx (fun hx H locs ls ce sl h0 k0 => lv_lconst hx.1 hx.2.1 hd hv (hq ▸ k0 ls h0)) kk
theorem j_ldc (hx : On x cc own d) {i : Nat} {v : Int32} (hc : Cond.constant own i v ∈ TB) (hd : decode cc pc = .ok (.ldc i, 2)) (hq : pc + 2 = q) (kk : J x q lv (.int v :: st) h K T) : J x pc lv st h K T :=
  J.step hx (fun hx H locs ls ce sl h0 k0 => lv_ldc hx.1 hx.2.1 hx.2.2.2.1 (hx.2.2.2.2.1 _ hc) hd (hq ▸ k0 ls h0)) kk
theorem j_ldc_w (hx : On x cc own d) {i : Nat} {v : Int32} (hc : Cond.constant own i v ∈ TB) (hd : decode cc pc = .ok (.ldc_w i, 3)) (hq : pc + 3 = q) (kk : J x q lv (.int v :: st) h K T) : J x pc lv st h K T :=
  J.step hx (fun hx H locs ls ce sl h0 k0 => lv_ldcw hx.1 hx.2.1 hx.2.2.2.1 (hx.2.2.2.2.1 _ hc) hd (hq ▸ k0 ls h0)) kk
theorem j_ldc2 (hx : On x cc own d) {i : Nat} {v : Int64} (hc : Cond.constantLong own i v ∈ TB) (hd : decode cc pc = .ok (.ldc2_w i, 3)) (hq : pc + 3 = q) (kk : J x q lv (.long v :: st) h K T) : J x pc lv st h K T :=
  J.step hx (fun hx H locs ls ce sl h0 k0 => lv_ldc2 hx.1 hx.2.1 hx.2.2.2.1 (hx.2.2.2.2.1 _ hc) hd (hq ▸ k0 ls h0)) kk
theorem j_null (hx : On x cc own d) (hd : decode cc pc = .ok (.aconst_null, 1)) (hq : pc + 1 = q) (kk : J x q lv (vR x.2.2.2 0 :: st) h K T) : J x pc lv st h K T :=
  J.step hx (fun hx H locs ls ce sl h0 k0 => lv_null hx.1 hx.2.1 hd (hq ▸ k0 ls h0)) kk
theorem j_dup (hx : On x cc own d) {va : Value} (hd : decode cc pc = .ok (.dup, 1)) (hva : va.category = 1) (hq : pc + 1 = q) (kk : J x q lv (va :: va :: st) h K T) : J x pc lv (va :: st) h K T :=
  J.step hx (fun hx H locs ls ce sl h0 k0 => lv_dup hx.1 hx.2.1 hd hva (hq ▸ k0 ls h0)) kk
theorem j_dup2_11 (hx : On x cc own d) {va vb : Value} (hd : decode cc pc = .ok (.dup2, 1)) (hva : va.category = 1) (hvb : vb.category = 1) (hq : pc + 1 = q) (kk : J x q lv (va :: vb :: va :: vb :: st) h K T) : J x pc lv (va :: vb :: st) h K T :=
  J.step hx (fun hx H locs ls ce sl h0 k0 => lv_dup2_11 hx.1 hx.2.1 hd hva hvb (hq ▸ k0 ls h0)) kk
theorem j_pop (hx : On x cc own d) {va : Value} (hd : decode cc pc = .ok (.pop, 1)) (hva : va.category = 1) (hq : pc + 1 = q) (kk : J x q lv st h K T) : J x pc lv (va :: st) h K T :=
  J.step hx (fun hx H locs ls ce sl h0 k0 => lv_pop hx.1 hx.2.1 hd hva (hq ▸ k0 ls h0)) kk
theorem j_i2l (hx : On x cc own d) {a : Int32} (hd : decode cc pc = .ok (.i2l, 1)) (hq : pc + 1 = q) (kk : J x q lv (.long a.toInt64 :: st) h K T) : J x pc lv (.int a :: st) h K T :=
  J.step hx (fun hx H locs ls ce sl h0 k0 => lv_i2l hx.1 hx.2.1 hd rfl (hq ▸ k0 ls h0)) kk
theorem j_l2i (hx : On x cc own d) {a : Int64} (hd : decode cc pc = .ok (.l2i, 1)) (hq : pc + 1 = q) (kk : J x q lv (.int a.toInt32 :: st) h K T) : J x pc lv (.long a :: st) h K T :=
  J.step hx (fun hx H locs ls ce sl h0 k0 => lv_l2i hx.1 hx.2.1 hd rfl (hq ▸ k0 ls h0)) kk
theorem j_i2c (hx : On x cc own d) {a : Int32} (hd : decode cc pc = .ok (.i2c, 1)) (hq : pc + 1 = q) (kk : J x q lv (.int (a.toUInt32 % 65536).toInt32 :: st) h K T) : J x pc lv (.int a :: st) h K T :=
  J.step hx (fun hx H locs ls ce sl h0 k0 => lv_i2c hx.1 hx.2.1 hd rfl (hq ▸ k0 ls h0)) kk
theorem j_ineg (hx : On x cc own d) {a : Int32} (hd : decode cc pc = .ok (.ineg, 1)) (hq : pc + 1 = q) (kk : J x q lv (.int (-a) :: st) h K T) : J x pc lv (.int a :: st) h K T :=
  J.step hx (fun hx H locs ls ce sl h0 k0 => lv_ineg hx.1 hx.2.1 hd (hq ▸ k0 ls h0)) kk
theorem j_iadd (hx : On x cc own d) {a b : Int32} (hd : decode cc pc = .ok (.iadd, 1)) (hq : pc + 1 = q) (kk : J x q lv (.int (a + b) :: st) h K T) : J x pc lv (.int b :: .int a :: st) h K T :=
  J.step hx (fun hx H locs ls ce sl h0 k0 => lv_iadd hx.1 hx.2.1 hd (hq ▸ k0 ls h0)) kk
theorem j_isub (hx : On x cc own d) {a b : Int32} (hd : decode cc pc = .ok (.isub, 1)) (hq : pc + 1 = q) (kk : J x q lv (.int (a - b) :: st) h K T) : J x pc lv (.int b :: .int a :: st) h K T :=
  J.step hx (fun hx H locs ls ce sl h0 k0 => lv_isub hx.1 hx.2.1 hd (hq ▸ k0 ls h0)) kk
theorem j_imul (hx : On x cc own d) {a b : Int32} (hd : decode cc pc = .ok (.imul, 1)) (hq : pc + 1 = q) (kk : J x q lv (.int (a * b) :: st) h K T) : J x pc lv (.int b :: .int a :: st) h K T :=
  J.step hx (fun hx H locs ls ce sl h0 k0 => lv_imul hx.1 hx.2.1 hd (hq ▸ k0 ls h0)) kk
theorem j_iand (hx : On x cc own d) {a b : Int32} (hd : decode cc pc = .ok (.iand, 1)) (hq : pc + 1 = q) (kk : J x q lv (.int (a &&& b) :: st) h K T) : J x pc lv (.int b :: .int a :: st) h K T :=
  J.step hx (fun hx H locs ls ce sl h0 k0 => lv_iand hx.1 hx.2.1 hd (hq ▸ k0 ls h0)) kk
theorem j_ior (hx : On x cc own d) {a b : Int32} (hd : decode cc pc = .ok (.ior, 1)) (hq : pc + 1 = q) (kk : J x q lv (.int (a ||| b) :: st) h K T) : J x pc lv (.int b :: .int a :: st) h K T :=
  J.step hx (fun hx H locs ls ce sl h0 k0 => lv_ior hx.1 hx.2.1 hd (hq ▸ k0 ls h0)) kk
theorem j_ixor (hx : On x cc own d) {a b : Int32} (hd : decode cc pc = .ok (.ixor, 1)) (hq : pc + 1 = q) (kk : J x q lv (.int (a ^^^ b) :: st) h K T) : J x pc lv (.int b :: .int a :: st) h K T :=
  J.step hx (fun hx H locs ls ce sl h0 k0 => lv_ixor hx.1 hx.2.1 hd (hq ▸ k0 ls h0)) kk
theorem j_ishl (hx : On x cc own d) {a b : Int32} (hd : decode cc pc = .ok (.ishl, 1)) (hq : pc + 1 = q) (kk : J x q lv (.int (a <<< (b &&& 31)) :: st) h K T) : J x pc lv (.int b :: .int a :: st) h K T :=
  J.step hx (fun hx H locs ls ce sl h0 k0 => lv_ishl hx.1 hx.2.1 hd (hq ▸ k0 ls h0)) kk
theorem j_ishr (hx : On x cc own d) {a b : Int32} (hd : decode cc pc = .ok (.ishr, 1)) (hq : pc + 1 = q) (kk : J x q lv (.int (a >>> (b &&& 31)) :: st) h K T) : J x pc lv (.int b :: .int a :: st) h K T :=
  J.step hx (fun hx H locs ls ce sl h0 k0 => lv_ishr hx.1 hx.2.1 hd (hq ▸ k0 ls h0)) kk
theorem j_iushr (hx : On x cc own d) {a b : Int32} (hd : decode cc pc = .ok (.iushr, 1)) (hq : pc + 1 = q) (kk : J x q lv (.int ((a.toUInt32 >>> (b.toUInt32 &&& Int32.toUInt32 31)).toInt32) :: st) h K T) : J x pc lv (.int b :: .int a :: st) h K T :=
  J.step hx (fun hx H locs ls ce sl h0 k0 => lv_iushr hx.1 hx.2.1 hd rfl (hq ▸ k0 ls h0)) kk
theorem j_ladd (hx : On x cc own d) {a b : Int64} (hd : decode cc pc = .ok (.ladd, 1)) (hq : pc + 1 = q) (kk : J x q lv (.long (a + b) :: st) h K T) : J x pc lv (.long b :: .long a :: st) h K T :=
  J.step hx (fun hx H locs ls ce sl h0 k0 => lv_ladd hx.1 hx.2.1 hd (hq ▸ k0 ls h0)) kk
theorem j_lsub (hx : On x cc own d) {a b : Int64} (hd : decode cc pc = .ok (.lsub, 1)) (hq : pc + 1 = q) (kk : J x q lv (.long (a - b) :: st) h K T) : J x pc lv (.long b :: .long a :: st) h K T :=
  J.step hx (fun hx H locs ls ce sl h0 k0 => lv_lsub hx.1 hx.2.1 hd (hq ▸ k0 ls h0)) kk
theorem j_lmul (hx : On x cc own d) {a b : Int64} (hd : decode cc pc = .ok (.lmul, 1)) (hq : pc + 1 = q) (kk : J x q lv (.long (a * b) :: st) h K T) : J x pc lv (.long b :: .long a :: st) h K T :=
  J.step hx (fun hx H locs ls ce sl h0 k0 => lv_lmul hx.1 hx.2.1 hd (hq ▸ k0 ls h0)) kk
theorem j_land (hx : On x cc own d) {a b : Int64} (hd : decode cc pc = .ok (.land, 1)) (hq : pc + 1 = q) (kk : J x q lv (.long (a &&& b) :: st) h K T) : J x pc lv (.long b :: .long a :: st) h K T :=
  J.step hx (fun hx H locs ls ce sl h0 k0 => lv_land hx.1 hx.2.1 hd (hq ▸ k0 ls h0)) kk
theorem j_lor (hx : On x cc own d) {a b : Int64} (hd : decode cc pc = .ok (.lor, 1)) (hq : pc + 1 = q) (kk : J x q lv (.long (a ||| b) :: st) h K T) : J x pc lv (.long b :: .long a :: st) h K T :=
  J.step hx (fun hx H locs ls ce sl h0 k0 => lv_lor hx.1 hx.2.1 hd (hq ▸ k0 ls h0)) kk
theorem j_lxor (hx : On x cc own d) {a b : Int64} (hd : decode cc pc = .ok (.lxor, 1)) (hq : pc + 1 = q) (kk : J x q lv (.long (a ^^^ b) :: st) h K T) : J x pc lv (.long b :: .long a :: st) h K T :=
  J.step hx (fun hx H locs ls ce sl h0 k0 => lv_lxor hx.1 hx.2.1 hd (hq ▸ k0 ls h0)) kk
theorem j_lushr (hx : On x cc own d) {a : Int64} {b : Int32} (hd : decode cc pc = .ok (.lushr, 1)) (hq : pc + 1 = q) (kk : J x q lv (.long ((a.toUInt64 >>> (b.toInt64.toUInt64 &&& Int64.toUInt64 63)).toInt64) :: st) h K T) : J x pc lv (.int b :: .long a :: st) h K T :=
  J.step hx (fun hx H locs ls ce sl h0 k0 => lv_lushr hx.1 hx.2.1 hd rfl (hq ▸ k0 ls h0)) kk
theorem j_lcmp (hx : On x cc own d) {a b : Int64} (hd : decode cc pc = .ok (.lcmp, 1)) (hq : pc + 1 = q) (kk : J x q lv (.int (lg_cmp a b) :: st) h K T) : J x pc lv (.long b :: .long a :: st) h K T :=
  J.step hx (fun hx H locs ls ce sl h0 k0 => W.lcmp hx.1 hx.2.1 hd (hq ▸ k0 ls h0)) kk
theorem j_idiv (hx : On x cc own d) {a b : Int32} {K : Int32 → Option ρ} (hd : decode cc pc = .ok (.idiv, 1)) (hq : pc + 1 = q) (kk : J x q lv (.int (a / b) :: st) h (K b) T) : J x pc lv (.int b :: .int a :: st) h ((nz b).bind K) T := by
  by_cases hb : b = 0
  · intro r hr; simp [nz, hb] at hr
  · have e : (nz b).bind K = K b := by simp [nz, hb]
    rw [e]
    exact J.step hx (fun hx H locs ls ce sl h0 k0 => lv_idiv hx.1 hx.2.1 hd hb (hq ▸ k0 ls h0)) kk
theorem j_irem (hx : On x cc own d) {a b : Int32} {K : Int32 → Option ρ} (hd : decode cc pc = .ok (.irem, 1)) (hq : pc + 1 = q) (kk : J x q lv (.int (a - a / b * b) :: st) h (K b) T) : J x pc lv (.int b :: .int a :: st) h ((nz b).bind K) T := by
  by_cases hb : b = 0
  · intro r hr; simp [nz, hb] at hr
  · have e : (nz b).bind K = K b := by simp [nz, hb]
    rw [e]
    exact J.step hx (fun hx H locs ls ce sl h0 k0 => lv_irem hx.1 hx.2.1 hd hb (hq ▸ k0 ls h0)) kk
theorem j_ldiv (hx : On x cc own d) {a b : Int64} {K : Int64 → Option ρ} (hd : decode cc pc = .ok (.ldiv, 1)) (hq : pc + 1 = q) (kk : J x q lv (.long (a / b) :: st) h (K b) T) : J x pc lv (.long b :: .long a :: st) h ((nzL b).bind K) T := by
  by_cases hb : b = 0
  · intro r hr; simp [nzL, hb] at hr
  · have e : (nzL b).bind K = K b := by simp [nzL, hb]
    rw [e]
    exact J.step hx (fun hx H locs ls ce sl h0 k0 => lv_ldiv hx.1 hx.2.1 hd hb (hq ▸ k0 ls h0)) kk
theorem j_lrem (hx : On x cc own d) {a b : Int64} {K : Int64 → Option ρ} (hd : decode cc pc = .ok (.lrem, 1)) (hq : pc + 1 = q) (kk : J x q lv (.long (a - a / b * b) :: st) h (K b) T) : J x pc lv (.long b :: .long a :: st) h ((nzL b).bind K) T := by
  by_cases hb : b = 0
  · intro r hr; simp [nzL, hb] at hr
  · have e : (nzL b).bind K = K b := by simp [nzL, hb]
    rw [e]
    exact J.step hx (fun hx H locs ls ce sl h0 k0 => lv_lrem hx.1 hx.2.1 hd hb (hq ▸ k0 ls h0)) kk
theorem j_icmp_eq (hx : On x cc own d) {a b : Int32} {off : Int} {tgt : Nat} {cnd : Prop} [Decidable cnd] {K1 K2 : Option ρ} (hd : decode cc pc = .ok (.if_icmp .eq off, 3)) (ht : (pc : Int) + off = (tgt : Int)) (hc : cnd ↔ a = b) (hq : pc + 3 = q) (k1 : J x tgt lv st h K1 T) (k2 : J x q lv st h K2 T) : J x pc lv (.int b :: .int a :: st) h (if cnd then K1 else K2) T := by
  subst hq
  by_cases hz : cnd
  · rw [if_pos hz]
    have hz' := hc.mp hz
    exact J.step hx (fun hx H locs ls ce sl h0 k0 => lv_icmp_eq hx.1 hx.2.1 hd ht (fun _ => k0 ls h0) (fun n => absurd hz' n)) k1
  · rw [if_neg hz]
    have hz' := fun n => hz (hc.mpr n)
    exact J.step hx (fun hx H locs ls ce sl h0 k0 => lv_icmp_eq hx.1 hx.2.1 hd ht (fun n => absurd n hz') (fun _ => k0 ls h0)) k2
theorem j_icmp_ne (hx : On x cc own d) {a b : Int32} {off : Int} {tgt : Nat} {cnd : Prop} [Decidable cnd] {K1 K2 : Option ρ} (hd : decode cc pc = .ok (.if_icmp .ne off, 3)) (ht : (pc : Int) + off = (tgt : Int)) (hc : cnd ↔ a ≠ b) (hq : pc + 3 = q) (k1 : J x tgt lv st h K1 T) (k2 : J x q lv st h K2 T) : J x pc lv (.int b :: .int a :: st) h (if cnd then K1 else K2) T := by
  subst hq
  by_cases hz : cnd
  · rw [if_pos hz]
    have hz' := hc.mp hz
    exact J.step hx (fun hx H locs ls ce sl h0 k0 => lv_icmp_ne hx.1 hx.2.1 hd ht (fun _ => k0 ls h0) (fun n => absurd n hz')) k1
  · rw [if_neg hz]
    have hz' := fun n => hz (hc.mpr n)
    exact J.step hx (fun hx H locs ls ce sl h0 k0 => lv_icmp_ne hx.1 hx.2.1 hd ht (fun n => absurd n hz') (fun _ => k0 ls h0)) k2
theorem j_icmp_lt (hx : On x cc own d) {a b : Int32} {off : Int} {tgt : Nat} {cnd : Prop} [Decidable cnd] {K1 K2 : Option ρ} (hd : decode cc pc = .ok (.if_icmp .lt off, 3)) (ht : (pc : Int) + off = (tgt : Int)) (hc : cnd ↔ a < b) (hq : pc + 3 = q) (k1 : J x tgt lv st h K1 T) (k2 : J x q lv st h K2 T) : J x pc lv (.int b :: .int a :: st) h (if cnd then K1 else K2) T := by
  subst hq
  by_cases hz : cnd
  · rw [if_pos hz]
    have hz' := hc.mp hz
    exact J.step hx (fun hx H locs ls ce sl h0 k0 => lv_icmp_lt hx.1 hx.2.1 hd ht (fun _ => k0 ls h0) (fun n => absurd hz' n)) k1
  · rw [if_neg hz]
    have hz' := fun n => hz (hc.mpr n)
    exact J.step hx (fun hx H locs ls ce sl h0 k0 => lv_icmp_lt hx.1 hx.2.1 hd ht (fun n => absurd n hz') (fun _ => k0 ls h0)) k2
theorem j_icmp_ge (hx : On x cc own d) {a b : Int32} {off : Int} {tgt : Nat} {cnd : Prop} [Decidable cnd] {K1 K2 : Option ρ} (hd : decode cc pc = .ok (.if_icmp .ge off, 3)) (ht : (pc : Int) + off = (tgt : Int)) (hc : cnd ↔ b ≤ a) (hq : pc + 3 = q) (k1 : J x tgt lv st h K1 T) (k2 : J x q lv st h K2 T) : J x pc lv (.int b :: .int a :: st) h (if cnd then K1 else K2) T := by
  subst hq
  by_cases hz : cnd
  · rw [if_pos hz]
    have hz' := hc.mp hz
    exact J.step hx (fun hx H locs ls ce sl h0 k0 => lv_icmp_ge hx.1 hx.2.1 hd ht (fun _ => k0 ls h0) (fun n => absurd hz' n)) k1
  · rw [if_neg hz]
    have hz' := fun n => hz (hc.mpr n)
    exact J.step hx (fun hx H locs ls ce sl h0 k0 => lv_icmp_ge hx.1 hx.2.1 hd ht (fun n => absurd n hz') (fun _ => k0 ls h0)) k2
theorem j_icmp_gt (hx : On x cc own d) {a b : Int32} {off : Int} {tgt : Nat} {cnd : Prop} [Decidable cnd] {K1 K2 : Option ρ} (hd : decode cc pc = .ok (.if_icmp .gt off, 3)) (ht : (pc : Int) + off = (tgt : Int)) (hc : cnd ↔ b < a) (hq : pc + 3 = q) (k1 : J x tgt lv st h K1 T) (k2 : J x q lv st h K2 T) : J x pc lv (.int b :: .int a :: st) h (if cnd then K1 else K2) T := by
  subst hq
  by_cases hz : cnd
  · rw [if_pos hz]
    have hz' := hc.mp hz
    exact J.step hx (fun hx H locs ls ce sl h0 k0 => lv_icmp_gt hx.1 hx.2.1 hd ht (fun _ => k0 ls h0) (fun n => absurd hz' n)) k1
  · rw [if_neg hz]
    have hz' := fun n => hz (hc.mpr n)
    exact J.step hx (fun hx H locs ls ce sl h0 k0 => lv_icmp_gt hx.1 hx.2.1 hd ht (fun n => absurd n hz') (fun _ => k0 ls h0)) k2
theorem j_icmp_le (hx : On x cc own d) {a b : Int32} {off : Int} {tgt : Nat} {cnd : Prop} [Decidable cnd] {K1 K2 : Option ρ} (hd : decode cc pc = .ok (.if_icmp .le off, 3)) (ht : (pc : Int) + off = (tgt : Int)) (hc : cnd ↔ a ≤ b) (hq : pc + 3 = q) (k1 : J x tgt lv st h K1 T) (k2 : J x q lv st h K2 T) : J x pc lv (.int b :: .int a :: st) h (if cnd then K1 else K2) T := by
  subst hq
  by_cases hz : cnd
  · rw [if_pos hz]
    have hz' := hc.mp hz
    exact J.step hx (fun hx H locs ls ce sl h0 k0 => lv_icmp_le hx.1 hx.2.1 hd ht (fun _ => k0 ls h0) (fun n => absurd hz' n)) k1
  · rw [if_neg hz]
    have hz' := fun n => hz (hc.mpr n)
    exact J.step hx (fun hx H locs ls ce sl h0 k0 => lv_icmp_le hx.1 hx.2.1 hd ht (fun n => absurd n hz') (fun _ => k0 ls h0)) k2
theorem j_if_eq (hx : On x cc own d) {a : Int32} {off : Int} {tgt : Nat} {cnd : Prop} [Decidable cnd] {K1 K2 : Option ρ} (hd : decode cc pc = .ok (.ifCond .eq off, 3)) (ht : (pc : Int) + off = (tgt : Int)) (hc : cnd ↔ a = 0) (hq : pc + 3 = q) (k1 : J x tgt lv st h K1 T) (k2 : J x q lv st h K2 T) : J x pc lv (.int a :: st) h (if cnd then K1 else K2) T := by
  subst hq
  by_cases hz : cnd
  · rw [if_pos hz]
    have hz' := hc.mp hz
    exact J.step hx (fun hx H locs ls ce sl h0 k0 => lv_if_eq hx.1 hx.2.1 hd ht (fun _ => k0 ls h0) (fun n => absurd hz' n)) k1
  · rw [if_neg hz]
    have hz' := fun n => hz (hc.mpr n)
    exact J.step hx (fun hx H locs ls ce sl h0 k0 => lv_if_eq hx.1 hx.2.1 hd ht (fun n => absurd n hz') (fun _ => k0 ls h0)) k2
theorem j_if_ne (hx : On x cc own d) {a : Int32} {off : Int} {tgt : Nat} {cnd : Prop} [Decidable cnd] {K1 K2 : Option ρ} (hd : decode cc pc = .ok (.ifCond .ne off, 3)) (ht : (pc : Int) + off = (tgt : Int)) (hc : cnd ↔ a ≠ 0) (hq : pc + 3 = q) (k1 : J x tgt lv st h K1 T) (k2 : J x q lv st h K2 T) : J x pc lv (.int a :: st) h (if cnd then K1 else K2) T := by
  subst hq
  by_cases hz : cnd
  · rw [if_pos hz]
    have hz' := hc.mp hz
    exact J.step hx (fun hx H locs ls ce sl h0 k0 => lv_if_ne hx.1 hx.2.1 hd ht (fun _ => k0 ls h0) (fun n => absurd n hz')) k1
  · rw [if_neg hz]
    have hz' := fun n => hz (hc.mpr n)
    exact J.step hx (fun hx H locs ls ce sl h0 k0 => lv_if_ne hx.1 hx.2.1 hd ht (fun n => absurd n hz') (fun _ => k0 ls h0)) k2
theorem j_if_lt (hx : On x cc own d) {a : Int32} {off : Int} {tgt : Nat} {cnd : Prop} [Decidable cnd] {K1 K2 : Option ρ} (hd : decode cc pc = .ok (.ifCond .lt off, 3)) (ht : (pc : Int) + off = (tgt : Int)) (hc : cnd ↔ a < 0) (hq : pc + 3 = q) (k1 : J x tgt lv st h K1 T) (k2 : J x q lv st h K2 T) : J x pc lv (.int a :: st) h (if cnd then K1 else K2) T := by
  subst hq
  by_cases hz : cnd
  · rw [if_pos hz]
    have hz' := hc.mp hz
    exact J.step hx (fun hx H locs ls ce sl h0 k0 => lv_if_lt hx.1 hx.2.1 hd ht (fun _ => k0 ls h0) (fun n => absurd hz' n)) k1
  · rw [if_neg hz]
    have hz' := fun n => hz (hc.mpr n)
    exact J.step hx (fun hx H locs ls ce sl h0 k0 => lv_if_lt hx.1 hx.2.1 hd ht (fun n => absurd n hz') (fun _ => k0 ls h0)) k2
theorem j_if_ge (hx : On x cc own d) {a : Int32} {off : Int} {tgt : Nat} {cnd : Prop} [Decidable cnd] {K1 K2 : Option ρ} (hd : decode cc pc = .ok (.ifCond .ge off, 3)) (ht : (pc : Int) + off = (tgt : Int)) (hc : cnd ↔ 0 ≤ a) (hq : pc + 3 = q) (k1 : J x tgt lv st h K1 T) (k2 : J x q lv st h K2 T) : J x pc lv (.int a :: st) h (if cnd then K1 else K2) T := by
  subst hq
  by_cases hz : cnd
  · rw [if_pos hz]
    have hz' := hc.mp hz
    exact J.step hx (fun hx H locs ls ce sl h0 k0 => lv_if_ge hx.1 hx.2.1 hd ht (fun _ => k0 ls h0) (fun n => absurd hz' n)) k1
  · rw [if_neg hz]
    have hz' := fun n => hz (hc.mpr n)
    exact J.step hx (fun hx H locs ls ce sl h0 k0 => lv_if_ge hx.1 hx.2.1 hd ht (fun n => absurd n hz') (fun _ => k0 ls h0)) k2
theorem j_if_gt (hx : On x cc own d) {a : Int32} {off : Int} {tgt : Nat} {cnd : Prop} [Decidable cnd] {K1 K2 : Option ρ} (hd : decode cc pc = .ok (.ifCond .gt off, 3)) (ht : (pc : Int) + off = (tgt : Int)) (hc : cnd ↔ 0 < a) (hq : pc + 3 = q) (k1 : J x tgt lv st h K1 T) (k2 : J x q lv st h K2 T) : J x pc lv (.int a :: st) h (if cnd then K1 else K2) T := by
  subst hq
  by_cases hz : cnd
  · rw [if_pos hz]
    have hz' := hc.mp hz
    exact J.step hx (fun hx H locs ls ce sl h0 k0 => lv_if_gt hx.1 hx.2.1 hd ht (fun _ => k0 ls h0) (fun n => absurd hz' n)) k1
  · rw [if_neg hz]
    have hz' := fun n => hz (hc.mpr n)
    exact J.step hx (fun hx H locs ls ce sl h0 k0 => lv_if_gt hx.1 hx.2.1 hd ht (fun n => absurd n hz') (fun _ => k0 ls h0)) k2
theorem j_if_le (hx : On x cc own d) {a : Int32} {off : Int} {tgt : Nat} {cnd : Prop} [Decidable cnd] {K1 K2 : Option ρ} (hd : decode cc pc = .ok (.ifCond .le off, 3)) (ht : (pc : Int) + off = (tgt : Int)) (hc : cnd ↔ a ≤ 0) (hq : pc + 3 = q) (k1 : J x tgt lv st h K1 T) (k2 : J x q lv st h K2 T) : J x pc lv (.int a :: st) h (if cnd then K1 else K2) T := by
  subst hq
  by_cases hz : cnd
  · rw [if_pos hz]
    have hz' := hc.mp hz
    exact J.step hx (fun hx H locs ls ce sl h0 k0 => lv_if_le hx.1 hx.2.1 hd ht (fun _ => k0 ls h0) (fun n => absurd hz' n)) k1
  · rw [if_neg hz]
    have hz' := fun n => hz (hc.mpr n)
    exact J.step hx (fun hx H locs ls ce sl h0 k0 => lv_if_le hx.1 hx.2.1 hd ht (fun n => absurd n hz') (fun _ => k0 ls h0)) k2
theorem j_goto (hx : On x cc own d) {off : Int} (hd : decode cc pc = .ok (.goto off, 3)) (ht : (pc : Int) + off = (q : Int)) (kk : J x q lv st h K T) : J x pc lv st h K T :=
  J.step hx (fun hx H locs ls ce sl h0 k0 => lv_goto hx.1 hx.2.1 hd ht (k0 ls h0)) kk
theorem j_ifnull (hx : On x cc own d) {a : Nat} {off : Int} {tgt : Nat} {K1 K2 : Option ρ} (hd : decode cc pc = .ok (.ifnull off, 3)) (ht : (pc : Int) + off = (tgt : Int)) (hq : pc + 3 = q) (k1 : J x tgt lv st h K1 T) (k2 : J x q lv st h K2 T) : J x pc lv (vR x.2.2.2 a :: st) h (if a = 0 then K1 else K2) T := by
  subst hq
  by_cases hz : a = 0
  · rw [if_pos hz]
    subst hz
    exact J.step hx (fun hx H locs ls ce sl h0 k0 => lv_ifnullN hx.1 hx.2.1 hd ht (k0 ls h0)) k1
  · rw [if_neg hz, vR_pos hz]
    exact J.step hx (fun hx H locs ls ce sl h0 k0 => lv_ifnull hx.1 hx.2.1 hd (k0 ls h0)) k2
theorem j_ifnonnull (hx : On x cc own d) {a : Nat} {off : Int} {tgt : Nat} {K1 K2 : Option ρ} (hd : decode cc pc = .ok (.ifnonnull off, 3)) (ht : (pc : Int) + off = (tgt : Int)) (hq : pc + 3 = q) (k1 : J x tgt lv st h K1 T) (k2 : J x q lv st h K2 T) : J x pc lv (vR x.2.2.2 a :: st) h (if a ≠ 0 then K1 else K2) T := by
  subst hq
  by_cases hz : a = 0
  · rw [if_neg (fun n => n hz)]
    subst hz
    exact J.step hx (fun hx H locs ls ce sl h0 k0 => lv_ifnonnullN hx.1 hx.2.1 hd (k0 ls h0)) k2
  · rw [if_pos hz, vR_pos hz]
    exact J.step hx (fun hx H locs ls ce sl h0 k0 => lv_ifnonnull hx.1 hx.2.1 hd ht (k0 ls h0)) k1
end JR
