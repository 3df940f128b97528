section C5
variable {σ σ' : Sg} {I I' I1 I2 : Nat → Nat → Int32} {L L' L1 L2 : Nat → Nat → Int64} {T N : Nat → Nat} {a : Nat} {P : Nat → Nat → Nat} {K : Nat → Bool} {Q : Nat → Nat → Nat}
def ctV (T N : Nat → Nat) (a j : Nat) : Nat := if j = 0 then T 0 else if j = 1 then T 1 else if j = 2 then N 18 else if j = 3 then pc (stnd T N) else if j = 4 then N 17 else if j = 5 then N 16 else if j = 6 then pc (knF N) else a
/-- count -/
theorem c_count (h : CB σ I L T N a P K Q) {j : Nat} (hj : j < 8) : ∃ I1 L1, mX11_count 100 (nI j) (hk σ I L) = some (nI (ctV T N a j), hk σ I1 L1) ∧ FrC I L I1 L1 := by
  obtain ⟨cr, ex, pa, hTh⟩ := id h
  obtain ⟨⟨hla, hsa, hS⟩, hWT, hWN, hLw, hSt⟩ := id cr
  have q : ∀ {v : Int32}, mX11_count 100 (nI j) (hk σ I L) = some (v, hk σ I L) → v = nI (ctV T N a j) → ∃ I1 L1, mX11_count 100 (nI j) (hk σ I L) = some (nI (ctV T N a j), hk σ I1 L1) ∧ FrC I L I1 L1 := fun e1 e2 => ⟨I, L, by rw [e1, e2], FrC.rf⟩
  unfold mX11_count at q ⊢
  rw [if_pos s100, tsw_n (by omega)] at q ⊢
  rcases (show j = 0 ∨ j = 1 ∨ j = 2 ∨ j = 3 ∨ j = 4 ∨ j = 5 ∨ j = 6 ∨ j = 7 by omega) with rfl | rfl | rfl | rfl | rfl | rfl | rfl | rfl
  · exact q (v := nI (T 0)) (by rw [td0, gLa, gI_la hla, obind, hLw.1.1]) rfl
  · exact q (v := nI (T 1)) (by rw [td1, gLa, gI_la hla, obind, hLw.1.2.1]) rfl
  · exact q (v := nI (N 18)) (by rw [td2, gSa, gI_st hsa, obind, hSt.1.2.2.1]) rfl
  · obtain ⟨r, e1, hr⟩ := remember_ok cr
    have f1 : FrC I L I (rowUp L 415 r) := FrC.rf.upL r (by unfold scC; omega)
    obtain ⟨r2, b, e2⟩ := cstanding_ok (cr.fr f1) (by rw [rowUp_same]; exact hr)
    have f2 : FrC I L (rowUp I 432 b) (rowUp (rowUp L 415 r) 417 r2) := (f1.upI b (by unfold scC; omega)).upL r2 (by unfold scC; omega)
    have hs : stnd T N < 256 := Nat.lt_of_lt_of_le (bs_lt _ _) (ev_lt hWN.2.2.2.1.2)
    refine ⟨_, _, ?_, f2⟩
    rw [td3, e1, obind, e2, b2s, cbits_ok _ hs, obind]
    rfl
  · exact q (v := nI (N 17)) (by rw [td4, gSa, gI_st hsa, obind, hSt.1.1]) rfl
  · have h16 := hWN.2.1
    refine q (v := nI (N 16)) ?_ rfl
    rw [td5, gSa, gI_st hsa, obind, hSt.1.2.1, c_0 (by omega)]
    rcases (show N 16 = 0 ∨ N 16 = 1 by omega) with e | e
    · rw [if_pos e, e]; rfl
    · rw [if_neg (by omega), e]; rfl
  · have kl : knF N < 256 := knF_lt N
    exact q (v := nI (pc (knF N))) (by rw [td6, gSa, known_ok hsa hSt, obind, cbits_ok _ kl, obind]) rfl
  · exact q (v := nI a) (by rw [td7, gHist, obind, gI_o 4 (n := 5) rfl, obind, pa.2.1.2.1]) rfl
/-- what holds of the class speaks of its own rows alone -/
theorem CB.ext (h : CB σ I L T N a P K Q) (hg : gla σ' = gla σ) (hs : gsa σ' = gsa σ) (f : ∀ x, 100 ≤ x → x < 433 → I' x = I x ∧ L' x = L x) (f2 : L' 2 = L 2) : CB σ' I' L' T N a P K Q := by
  obtain ⟨⟨⟨h1, h2, h3⟩, h4, h5, h6, h7⟩, hE, ⟨p1, p2, p4, p6, p7⟩, hT⟩ := h
  have h2' : 268 ≤ gsa σ ∧ gsa σ < 414 := by unfold isSt at h2; omega
  refine ⟨⟨⟨by rw [hg]; exact h1, by rw [hs]; exact h2, fun k hk' => by rw [f2]; exact h3 k hk'⟩, h4, h5, by rw [hg]; exact h6.eq h1 h4 fun x a b => f x (by omega) (by omega), by rw [hs]; exact h7.eq fun x a b => (f x (by omega) (by omega)).1⟩, hE,
    ⟨by rw [hs]; exact p1, p2.fr (by rw [(f 285 (by omega) (by omega)).1]) (by rw [(f 285 (by omega) (by omega)).1]) (fun x a b => (f x (by omega) (by omega)).1), p4.fr (by rw [(f 285 (by omega) (by omega)).1]) (fun x a b => (f x (by omega) (by omega)).1), p6, p7⟩,
    fun k hk' => by rw [(f 421 (by omega) (by omega)).1]; exact hT k hk'⟩
end C5
