noncomputable def mX12_empties_l2f (x0 : Nat) (x1 : Int32) (h : Hp) : Option ((Int32 × Hp) ⊕ Hp) :=
  (aLen x0 h).bind fun v1 =>
  if x1 < v1 then
  ((stI x0 x1 (0 : Int32) h).bind fun h2 =>
  some (.inl ((x1 + (1 : Int32)), h2)))
  else (xt (some h))
noncomputable def mX12_empties_l2 (x0 : Nat) (x1 : Int32) (h : Hp) : Option Hp :=
  lp (fun s : (Int32 × Hp) => mX12_empties_l2f x0 s.1 s.2) (x1, h)
noncomputable def mX12_empties (x0 : Nat) (h : Hp) : Option Hp :=
  mX12_empties_l2 x0 (0 : Int32) h

noncomputable def mX12_holds_b227 (x0 : Nat) (x1 : Nat) (x2 : Int32) (x3 : Int32) (x4 : Int32) (x5 : Int32) (h : Hp) : Option ((Int32 × Int32 × Hp) ⊕ (Int32 × Hp)) :=
  some (.inl (x4, (x5 + (1 : Int32)), h))
noncomputable def mX12_holds_b226 (x0 : Nat) (x1 : Nat) (x2 : Int32) (x3 : Int32) (x4 : Int32) (x5 : Int32) (t0 : Nat) (t1 : Int32) (t2 : Int32) (h : Hp) : Option ((Int32 × Int32 × Hp) ⊕ (Int32 × Hp)) :=
  (stI t0 t1 t2 h).bind fun h12 =>
  mX12_holds_b227 x0 x1 x2 x3 x4 x5 h12
noncomputable def mX12_holds_b165 (x0 : Nat) (x1 : Nat) (x2 : Int32) (x3 : Int32) (x4 : Int32) (x5 : Int32) (t0 : Nat) (t1 : Int32) (t2 : Int32) (h : Hp) : Option ((Int32 × Int32 × Hp) ⊕ (Int32 × Hp)) :=
  (stI t0 t1 t2 h).bind fun h18 =>
  mX12_holds_b227 x0 x1 x2 x3 (x4 + (1 : Int32)) x5 h18
noncomputable def mX12_holds_l113f (x0 : Nat) (x1 : Nat) (x2 : Int32) (x3 : Int32) (x5 : Int32) (x7 : Int32) (h : Hp) (x4 : Int32) (x8 : Int32) (x9 : Int32) : Option ((Int32 × Int32 × Int32) ⊕ ((Int32 × Int32 × Hp) ⊕ (Int32 × Hp))) :=
  (nz (10 : Int32)).bind fun _ =>
  if x9 < (x7 - x7 / (10 : Int32) * (10 : Int32)) then
  ((gR 12 23 x0 h).bind fun v19 =>
  (ldI v19 (x4 + (-1 : Int32)) h).bind fun v20 =>
  some (.inl ((x4 + (-1 : Int32)), (x8 + v20), (x9 + (1 : Int32)))))
  else (xt ((gR 12 23 x0 h).bind fun v17 =>
  (nz (10 : Int32)).bind fun _ =>
  if x8 < (x7 / (10 : Int32)) then
  (mX12_holds_b165 x0 x1 x2 x3 x4 x5 v17 x4 (0 : Int32) h)
  else (mX12_holds_b165 x0 x1 x2 x3 x4 x5 v17 x4 (1 : Int32) h)))
noncomputable def mX12_holds_l113 (x0 : Nat) (x1 : Nat) (x2 : Int32) (x3 : Int32) (x4 : Int32) (x5 : Int32) (x7 : Int32) (x8 : Int32) (x9 : Int32) (h : Hp) : Option ((Int32 × Int32 × Hp) ⊕ (Int32 × Hp)) :=
  lp (fun s : (Int32 × Int32 × Int32) => mX12_holds_l113f x0 x1 x2 x3 x5 x7 h s.1 s.2.1 s.2.2) (x4, x8, x9)
noncomputable def mX12_holds_l11f (x0 : Nat) (x1 : Nat) (x2 : Int32) (x3 : Int32) (x4 : Int32) (x5 : Int32) (h : Hp) : Option ((Int32 × Int32 × Hp) ⊕ (Int32 × Hp)) :=
  (ldI x1 ((117 : Int32) + x2) h).bind fun v2 =>
  if x5 < v2 then
  ((ldI x1 ((150 : Int32) + x5) h).bind fun v5 =>
  (nz (100 : Int32)).bind fun _ =>
  (ldI x1 ((150 : Int32) + x5) h).bind fun v6 =>
  (nz (100 : Int32)).bind fun _ =>
  if (v5 / (100 : Int32)) = 0 then
  ((gR 12 23 x0 h).bind fun v25 =>
  (stI v25 x4 ((x3 >>> ((v6 - v6 / (100 : Int32) * (100 : Int32)) &&& 31)) &&& (1 : Int32)) h).bind fun h26 =>
  mX12_holds_b227 x0 x1 x2 x3 (x4 + (1 : Int32)) x5 h26)
  else (if (v5 / (100 : Int32)) = (1 : Int32) then
  ((gR 12 23 x0 h).bind fun v21 =>
  (gR 12 23 x0 h).bind fun v22 =>
  (ldI v22 (x4 - (1 : Int32)) h).bind fun v23 =>
  (stI v21 (x4 - (1 : Int32)) ((1 : Int32) - v23) h).bind fun h24 =>
  mX12_holds_b227 x0 x1 x2 x3 x4 x5 h24)
  else (if (v5 / (100 : Int32)) = (4 : Int32) then
  (mX12_holds_l113 x0 x1 x2 x3 x4 x5 (v6 - v6 / (100 : Int32) * (100 : Int32)) (0 : Int32) (0 : Int32) h)
  else ((gR 12 23 x0 h).bind fun v7 =>
  if (v5 / (100 : Int32)) = (2 : Int32) then
  ((gR 12 23 x0 h).bind fun v13 =>
  (ldI v13 ((x4 + (-1 : Int32)) - (1 : Int32)) h).bind fun v14 =>
  (gR 12 23 x0 h).bind fun v15 =>
  (ldI v15 (x4 + (-1 : Int32)) h).bind fun v16 =>
  mX12_holds_b226 x0 x1 x2 x3 (x4 + (-1 : Int32)) x5 v7 ((x4 + (-1 : Int32)) - (1 : Int32)) (v14 &&& v16) h)
  else ((gR 12 23 x0 h).bind fun v8 =>
  (ldI v8 ((x4 + (-1 : Int32)) - (1 : Int32)) h).bind fun v9 =>
  (gR 12 23 x0 h).bind fun v10 =>
  (ldI v10 (x4 + (-1 : Int32)) h).bind fun v11 =>
  mX12_holds_b226 x0 x1 x2 x3 (x4 + (-1 : Int32)) x5 v7 ((x4 + (-1 : Int32)) - (1 : Int32)) (v9 ||| v11) h)))))
  else (xt ((gR 12 23 x0 h).bind fun v3 =>
  (ldI v3 (0 : Int32) h).bind fun v4 =>
  some (v4, h)))
noncomputable def mX12_holds_l11 (x0 : Nat) (x1 : Nat) (x2 : Int32) (x3 : Int32) (x4 : Int32) (x5 : Int32) (h : Hp) : Option (Int32 × Hp) :=
  lp (fun s : (Int32 × Int32 × Hp) => mX12_holds_l11f x0 x1 x2 x3 s.1 s.2.1 s.2.2) (x4, x5, h)
noncomputable def mX12_holds (x0 : Nat) (x1 : Nat) (x2 : Int32) (x3 : Int32) (h : Hp) : Option (Int32 × Hp) :=
  if (hpS h x0).1 = 13 then
  (ldI x1 ((84 : Int32) + x2) h).bind fun v1 =>
  mX12_holds_l11 x0 x1 x2 x3 (0 : Int32) v1 h
  else none

noncomputable def mX12_mayBe_l2f (x0 : Nat) (x1 : Nat) (x2 : Int32) (x3 : Int32) (h : Hp) : Option ((Int32 × Hp) ⊕ (Int32 × Hp)) :=
  (ldI x1 (3 : Int32) h).bind fun v1 =>
  if x3 < v1 then
  ((ldI x1 ((78 : Int32) + x3) h).bind fun v2 =>
  b2 (mX12_holds x0 x1 v2 x2 h) fun v3 h4 =>
  if v3 = (1 : Int32) then
  (xt (some ((0 : Int32), h4)))
  else (some (.inl ((x3 + (1 : Int32)), h4))))
  else (xt (some ((1 : Int32), h)))
noncomputable def mX12_mayBe_l2 (x0 : Nat) (x1 : Nat) (x2 : Int32) (x3 : Int32) (h : Hp) : Option (Int32 × Hp) :=
  lp (fun s : (Int32 × Hp) => mX12_mayBe_l2f x0 x1 x2 s.1 s.2) (x3, h)
noncomputable def mX12_mayBe (x0 : Nat) (x1 : Nat) (x2 : Int32) (h : Hp) : Option (Int32 × Hp) :=
  if (hpS h x0).1 = 13 then
  mX12_mayBe_l2 x0 x1 x2 (0 : Int32) h
  else none

noncomputable def mX12_adds (x0 : Nat) (x1 : Int32) (x2 : Int32) (x3 : Int32) (h : Hp) : Option Hp :=
  if x3 = 0 then
  (some h)
  else ((ldI x0 (((8 : Int32) * x1) + (x2 >>> ((5 : Int32) &&& 31))) h).bind fun v1 =>
  (stI x0 (((8 : Int32) * x1) + (x2 >>> ((5 : Int32) &&& 31))) (v1 ||| ((1 : Int32) <<< ((x2 &&& (31 : Int32)) &&& 31))) h).bind fun h2 =>
  some h2)

noncomputable def mX12_isIn (x0 : Nat) (x1 : Int32) (x2 : Int32) (h : Hp) : Option Int32 :=
  (ldI x0 (((8 : Int32) * x1) + (x2 >>> ((5 : Int32) &&& 31))) h).bind fun v1 =>
  if ((ushrI v1 (x2 &&& (31 : Int32))) &&& (1 : Int32)) = (1 : Int32) then
  (some (1 : Int32))
  else (some (0 : Int32))

noncomputable def mX12_isWonTold_b94 (x0 : Nat) (x1 : Int32) (x2 : Int32) (x3 : Int32) (h : Hp) : Option (Int32 ⊕ Int32) :=
  some (.inl (x3 + (1 : Int32)))
noncomputable def mX12_isWonTold_l49f (x0 : Nat) (x1 : Int32) (x2 : Int32) (h : Hp) (x3 : Int32) : Option (Int32 ⊕ Int32) :=
  (gR 12 0 x0 h).bind fun v3 =>
  (ldI v3 (4 : Int32) h).bind fun v4 =>
  if x3 < v4 then
  ((gR 12 0 x0 h).bind fun v5 =>
  (ldI v5 ((66 : Int32) + x3) h).bind fun v6 =>
  if v6 = x1 then
  ((gR 12 25 x0 h).bind fun v7 =>
  (gR 12 0 x0 h).bind fun v8 =>
  (ldI v8 ((72 : Int32) + x3) h).bind fun v9 =>
  (mX12_isIn v7 v9 x2 h).bind fun v10 =>
  if v10 = 0 then
  (mX12_isWonTold_b94 x0 x1 x2 x3 h)
  else (xt (some (0 : Int32))))
  else (mX12_isWonTold_b94 x0 x1 x2 x3 h))
  else (xt (some (1 : Int32)))
noncomputable def mX12_isWonTold_l49 (x0 : Nat) (x1 : Int32) (x2 : Int32) (x3 : Int32) (h : Hp) : Option Int32 :=
  lp (fun s : Int32 => mX12_isWonTold_l49f x0 x1 x2 h s) x3
noncomputable def mX12_isWonTold_l2f (x0 : Nat) (x1 : Int32) (x2 : Int32) (h : Hp) (x3 : Int32) : Option (Int32 ⊕ Int32) :=
  (gR 12 0 x0 h).bind fun v1 =>
  (ldI v1 ((26 : Int32) + x1) h).bind fun v2 =>
  if x3 < v2 then
  ((gR 12 25 x0 h).bind fun v12 =>
  (gR 12 0 x0 h).bind fun v13 =>
  (ldI v13 (((31 : Int32) + ((4 : Int32) * x1)) + x3) h).bind fun v14 =>
  (mX12_isIn v12 v14 x2 h).bind fun v15 =>
  if v15 = 0 then
  (xt (some (0 : Int32)))
  else (some (.inl (x3 + (1 : Int32)))))
  else (xt (mX12_isWonTold_l49 x0 x1 x2 (0 : Int32) h))
noncomputable def mX12_isWonTold_l2 (x0 : Nat) (x1 : Int32) (x2 : Int32) (x3 : Int32) (h : Hp) : Option Int32 :=
  lp (fun s : Int32 => mX12_isWonTold_l2f x0 x1 x2 h s) x3
noncomputable def mX12_isWonTold (x0 : Nat) (x1 : Int32) (x2 : Int32) (h : Hp) : Option Int32 :=
  if (hpS h x0).1 = 13 then
  mX12_isWonTold_l2 x0 x1 x2 (0 : Int32) h
  else none

noncomputable def mX12_isKnown (x0 : Nat) (x1 : Int32) (h : Hp) : Option Int32 :=
  if (hpS h x0).1 = 13 then
  (gR 12 4 x0 h).bind fun v1 =>
  (ldI v1 ((0 : Int32) + x1) h).bind fun v2 =>
  if v2 = (1 : Int32) then
  (some (1 : Int32))
  else ((gR 12 4 x0 h).bind fun v3 =>
  (ldI v3 ((0 : Int32) + x1) h).bind fun v4 =>
  if v4 = (4 : Int32) then
  (some (1 : Int32))
  else (some (0 : Int32)))
  else none

noncomputable def mX12_knownFacts_b26 (x0 : Nat) (x2 : Int32) (t0 : Int32) (t1 : Int32) (h : Hp) : Option ((Int32 × Int32) ⊕ Int32) :=
  some (.inl ((t0 ||| t1), (x2 + (1 : Int32))))
noncomputable def mX12_knownFacts_l4f (x0 : Nat) (h : Hp) (x1 : Int32) (x2 : Int32) : Option ((Int32 × Int32) ⊕ Int32) :=
  if x2 < (8 : Int32) then
  ((mX12_isKnown x0 x2 h).bind fun v1 =>
  if v1 = 0 then
  (mX12_knownFacts_b26 x0 x2 x1 (0 : Int32) h)
  else (mX12_knownFacts_b26 x0 x2 x1 ((1 : Int32) <<< (x2 &&& 31)) h))
  else (xt (some x1))
noncomputable def mX12_knownFacts_l4 (x0 : Nat) (x1 : Int32) (x2 : Int32) (h : Hp) : Option Int32 :=
  lp (fun s : (Int32 × Int32) => mX12_knownFacts_l4f x0 h s.1 s.2) (x1, x2)
noncomputable def mX12_knownFacts (x0 : Nat) (h : Hp) : Option Int32 :=
  if (hpS h x0).1 = 13 then
  mX12_knownFacts_l4 x0 (0 : Int32) (0 : Int32) h
  else none

noncomputable def mX12_knownSo_b39 (x0 : Nat) (x2 : Int32) (t0 : Int32) (t1 : Int32) (h : Hp) : Option ((Int32 × Int32) ⊕ Int32) :=
  some (.inl ((t0 ||| t1), (x2 + (1 : Int32))))
noncomputable def mX12_knownSo_b38 (x0 : Nat) (x2 : Int32) (t0 : Int32) (h : Hp) : Option ((Int32 × Int32) ⊕ Int32) :=
  mX12_knownSo_b39 x0 x2 t0 (0 : Int32) h
noncomputable def mX12_knownSo_l4f (x0 : Nat) (h : Hp) (x1 : Int32) (x2 : Int32) : Option ((Int32 × Int32) ⊕ Int32) :=
  if x2 < (8 : Int32) then
  ((mX12_isKnown x0 x2 h).bind fun v1 =>
  if v1 = 0 then
  (mX12_knownSo_b38 x0 x2 x1 h)
  else ((gR 12 4 x0 h).bind fun v3 =>
  (ldI v3 ((8 : Int32) + x2) h).bind fun v4 =>
  if v4 = (1 : Int32) then
  (mX12_knownSo_b39 x0 x2 x1 ((1 : Int32) <<< (x2 &&& 31)) h)
  else (mX12_knownSo_b38 x0 x2 x1 h)))
  else (xt (some x1))
noncomputable def mX12_knownSo_l4 (x0 : Nat) (x1 : Int32) (x2 : Int32) (h : Hp) : Option Int32 :=
  lp (fun s : (Int32 × Int32) => mX12_knownSo_l4f x0 h s.1 s.2) (x1, x2)
noncomputable def mX12_knownSo (x0 : Nat) (h : Hp) : Option Int32 :=
  if (hpS h x0).1 = 13 then
  mX12_knownSo_l4 x0 (0 : Int32) (0 : Int32) h
  else none

noncomputable def mX12_laysAgreed_b45 (x0 : Nat) (x1 : Nat) (x2 : Int32) (x3 : Int32) (x4 : Int32) (t0 : Nat) (t1 : Int32) (t2 : Int32) (t3 : Int32) (h : Hp) : Option ((Int32 × Hp) ⊕ Hp) :=
  (mX12_adds t0 t1 t2 t3 h).bind fun h4 =>
  some (.inl ((x4 + (1 : Int32)), h4))
noncomputable def mX12_laysAgreed_b44 (x0 : Nat) (x1 : Nat) (x2 : Int32) (x3 : Int32) (x4 : Int32) (t0 : Nat) (t1 : Int32) (t2 : Int32) (h : Hp) : Option ((Int32 × Hp) ⊕ Hp) :=
  mX12_laysAgreed_b45 x0 x1 x2 x3 x4 t0 t1 t2 (0 : Int32) h
noncomputable def mX12_laysAgreed_l7f (x0 : Nat) (x1 : Nat) (x2 : Int32) (x3 : Int32) (x4 : Int32) (h : Hp) : Option ((Int32 × Hp) ⊕ Hp) :=
  if x4 < (256 : Int32) then
  (if (x4 &&& x2) = x3 then
  ((gR 12 24 x0 h).bind fun v5 =>
  (mX12_isIn v5 (0 : Int32) x4 h).bind fun v6 =>
  if v6 = 0 then
  (mX12_laysAgreed_b44 x0 x1 x2 x3 x4 x1 (0 : Int32) x4 h)
  else (mX12_laysAgreed_b45 x0 x1 x2 x3 x4 x1 (0 : Int32) x4 (1 : Int32) h))
  else (mX12_laysAgreed_b44 x0 x1 x2 x3 x4 x1 (0 : Int32) x4 h))
  else (xt (some h))
noncomputable def mX12_laysAgreed_l7 (x0 : Nat) (x1 : Nat) (x2 : Int32) (x3 : Int32) (x4 : Int32) (h : Hp) : Option Hp :=
  lp (fun s : (Int32 × Hp) => mX12_laysAgreed_l7f x0 x1 x2 x3 s.1 s.2) (x4, h)
noncomputable def mX12_laysAgreed (x0 : Nat) (x1 : Nat) (x2 : Int32) (x3 : Int32) (h : Hp) : Option Hp :=
  if (hpS h x0).1 = 13 then
  (mX12_empties x1 h).bind fun h2 =>
  mX12_laysAgreed_l7 x0 x1 x2 x3 (0 : Int32) h2
  else none

noncomputable def mX12_laysKnown (x0 : Nat) (h : Hp) : Option Hp :=
  if (hpS h x0).1 = 13 then
  (gR 12 27 x0 h).bind fun v1 =>
  (mX12_knownFacts x0 h).bind fun v2 =>
  (mX12_knownSo x0 h).bind fun v4 =>
  (mX12_laysAgreed x0 v1 v2 v4 h).bind fun h7 =>
  some h7
  else none

noncomputable def mX12_laysTables_l102f (x0 : Nat) (x1 : Int32) (x2 : Int32) (h : Hp) : Option ((Int32 × Hp) ⊕ ((Int32 × Hp) ⊕ Hp)) :=
  (gR 12 0 x0 h).bind fun v22 =>
  (ldI v22 (2 : Int32) h).bind fun v23 =>
  if x2 < v23 then
  ((gR 12 26 x0 h).bind fun v24 =>
  (mX12_isWonTold x0 x2 x1 h).bind fun v25 =>
  (mX12_adds v24 x2 x1 v25 h).bind fun h28 =>
  some (.inl ((x2 + (1 : Int32)), h28)))
  else (xt (some (.inl ((x1 + (1 : Int32)), h))))
noncomputable def mX12_laysTables_l102 (x0 : Nat) (x1 : Int32) (x2 : Int32) (h : Hp) : Option ((Int32 × Hp) ⊕ Hp) :=
  lp (fun s : (Int32 × Hp) => mX12_laysTables_l102f x0 x1 s.1 s.2) (x2, h)
noncomputable def mX12_laysTables_b91 (x0 : Nat) (x1 : Int32) (x2 : Int32) (t0 : Nat) (t1 : Int32) (t2 : Int32) (t3 : Int32) (h : Hp) : Option ((Int32 × Hp) ⊕ ((Int32 × Hp) ⊕ Hp)) :=
  (mX12_adds t0 t1 t2 t3 h).bind fun h34 =>
  some (.inl ((x2 + (1 : Int32)), h34))
noncomputable def mX12_laysTables_l55f (x0 : Nat) (x1 : Int32) (x2 : Int32) (h : Hp) : Option ((Int32 × Hp) ⊕ ((Int32 × Hp) ⊕ Hp)) :=
  (gR 12 0 x0 h).bind fun v20 =>
  (ldI v20 (6 : Int32) h).bind fun v21 =>
  if x2 < v21 then
  ((gR 12 25 x0 h).bind fun v29 =>
  (gR 12 0 x0 h).bind fun v30 =>
  b2 (mX12_holds x0 v30 x2 x1 h) fun v31 h32 =>
  if v31 = (1 : Int32) then
  (mX12_laysTables_b91 x0 x1 x2 v29 x2 x1 (1 : Int32) h32)
  else (mX12_laysTables_b91 x0 x1 x2 v29 x2 x1 (0 : Int32) h32))
  else (xt (mX12_laysTables_l102 x0 x1 (0 : Int32) h))
noncomputable def mX12_laysTables_l55 (x0 : Nat) (x1 : Int32) (x2 : Int32) (h : Hp) : Option ((Int32 × Hp) ⊕ Hp) :=
  lp (fun s : (Int32 × Hp) => mX12_laysTables_l55f x0 x1 s.1 s.2) (x2, h)
noncomputable def mX12_laysTables_l23f (x0 : Nat) (x1 : Int32) (h : Hp) : Option ((Int32 × Hp) ⊕ Hp) :=
  (gR 12 0 x0 h).bind fun v10 =>
  (ldI v10 (1 : Int32) h).bind fun v11 =>
  if x1 < ((1 : Int32) <<< (v11 &&& 31)) then
  ((gR 12 24 x0 h).bind fun v14 =>
  (gR 12 0 x0 h).bind fun v15 =>
  b2 (mX12_mayBe x0 v15 x1 h) fun v16 h17 =>
  (mX12_adds v14 (0 : Int32) x1 v16 h17).bind fun h19 =>
  mX12_laysTables_l55 x0 x1 (0 : Int32) h19)
  else (xt ((mX12_laysKnown x0 h).bind fun h13 =>
  some h13))
noncomputable def mX12_laysTables_l23 (x0 : Nat) (x1 : Int32) (h : Hp) : Option Hp :=
  lp (fun s : (Int32 × Hp) => mX12_laysTables_l23f x0 s.1 s.2) (x1, h)
noncomputable def mX12_laysTables (x0 : Nat) (h : Hp) : Option Hp :=
  if (hpS h x0).1 = 13 then
  (gR 12 24 x0 h).bind fun v1 =>
  (mX12_empties v1 h).bind fun h3 =>
  (gR 12 25 x0 h3).bind fun v4 =>
  (mX12_empties v4 h3).bind fun h6 =>
  (gR 12 26 x0 h6).bind fun v7 =>
  (mX12_empties v7 h6).bind fun h9 =>
  mX12_laysTables_l23 x0 (0 : Int32) h9
  else none

noncomputable def mX12_init (x0 : Nat) (h : Hp) : Option Hp :=
  b2 (newA 50 640 h) fun v2 h1 =>
  (sR 12 0 x0 v2 h1).bind fun h3 =>
  b2 (newA 50 640 h3) fun v5 h4 =>
  (sR 12 1 x0 v5 h4).bind fun h6 =>
  b2 (newA 51 13 h6) fun v8 h7 =>
  (sR 12 2 x0 v8 h7).bind fun h9 =>
  b2 (newA 51 13 h9) fun v11 h10 =>
  (sR 12 3 x0 v11 h10).bind fun h12 =>
  b2 (newA 50 83 h12) fun v14 h13 =>
  (sR 12 4 x0 v14 h13).bind fun h15 =>
  b2 (newA 50 1328 h15) fun v17 h16 =>
  (sR 12 5 x0 v17 h16).bind fun h18 =>
  b2 (newA 50 166 h18) fun v20 h19 =>
  (sR 12 6 x0 v20 h19).bind fun h21 =>
  b2 (newA 52 2 h21) fun v23 h22 =>
  (sR 12 7 x0 v23 h22).bind fun h24 =>
  b2 (newA 50 480 h24) fun v26 h25 =>
  (sR 12 9 x0 v26 h25).bind fun h27 =>
  (sI 12 20 x0 (-1 : Int32) h27).bind fun h28 =>
  b2 (newA 50 490 h28) fun v30 h29 =>
  (sR 12 23 x0 v30 h29).bind fun h31 =>
  b2 (newA 50 8 h31) fun v33 h32 =>
  (sR 12 24 x0 v33 h32).bind fun h34 =>
  b2 (newA 50 256 h34) fun v36 h35 =>
  (sR 12 25 x0 v36 h35).bind fun h37 =>
  b2 (newA 50 40 h37) fun v39 h38 =>
  (sR 12 26 x0 v39 h38).bind fun h40 =>
  b2 (newA 50 8 h40) fun v42 h41 =>
  (sR 12 27 x0 v42 h41).bind fun h43 =>
  b2 (newA 50 8 h43) fun v45 h44 =>
  (sR 12 28 x0 v45 h44).bind fun h46 =>
  b2 (newA 50 8 h46) fun v48 h47 =>
  (sR 12 29 x0 v48 h47).bind fun h49 =>
  b2 (newA 50 8 h49) fun v51 h50 =>
  (sR 12 30 x0 v51 h50).bind fun h52 =>
  b2 (newA 50 6561 h52) fun v54 h53 =>
  (sR 12 33 x0 v54 h53).bind fun h55 =>
  b2 (newA 50 6561 h55) fun v57 h56 =>
  (sR 12 34 x0 v57 h56).bind fun h58 =>
  b2 (newA 50 6561 h58) fun v60 h59 =>
  (sR 12 35 x0 v60 h59).bind fun h61 =>
  b2 (newA 50 256 h61) fun v63 h62 =>
  (sR 12 38 x0 v63 h62).bind fun h64 =>
  (gR 12 0 x0 h64).bind fun v65 =>
  (stI v65 (5 : Int32) (300 : Int32) h64).bind fun h66 =>
  (mX12_laysTables x0 h66).bind fun h68 =>
  some h68

noncomputable def mX12_in (x0 : Int32) (x1 : Int32) (x2 : Int32) : Option Int32 :=
  if x0 < x1 then
  (some (0 : Int32))
  else (if x2 < x0 then
  (some (0 : Int32))
  else (some (1 : Int32)))

noncomputable def mX12_has (x0 : Int32) (x1 : Int32) : Option Int32 :=
  if ((x0 >>> (x1 &&& 31)) &&& (1 : Int32)) = (1 : Int32) then
  (some (1 : Int32))
  else (some (0 : Int32))

noncomputable def mX12_bits_l4f (x1 : Int32) (x2 : Int32) : Option ((Int32 × Int32) ⊕ Int32) :=
  if x2 = 0 then
  (xt (some x1))
  else (some (.inl ((x1 + (1 : Int32)), (x2 &&& (x2 - (1 : Int32))))))
noncomputable def mX12_bits_l4 (x1 : Int32) (x2 : Int32) : Option Int32 :=
  lp (fun s : (Int32 × Int32) => mX12_bits_l4f s.1 s.2) (x1, x2)
noncomputable def mX12_bits (x0 : Int32) : Option Int32 :=
  mX12_bits_l4 (0 : Int32) x0

noncomputable def mX12_sign_l17f (x0 : Nat) (x1 : Int32) (x2 : Int32) (h : Hp) : Option ((Int32 × Hp) ⊕ (Int32 × Hp)) :=
  if x2 < 0 then
  (xt ((gI 12 10 x0 h).bind fun v2 =>
  some (v2, h)))
  else ((gR 12 9 x0 h).bind fun v3 =>
  (gI 12 10 x0 h).bind fun v4 =>
  (stI v3 v4 ((x1 >>> (x2 &&& 31)) &&& (255 : Int32)) h).bind fun h5 =>
  (gI 12 10 x0 h5).bind fun v6 =>
  (sI 12 10 x0 (v6 + (1 : Int32)) h5).bind fun h7 =>
  some (.inl ((x2 + (-8 : Int32)), h7)))
noncomputable def mX12_sign_l17 (x0 : Nat) (x1 : Int32) (x2 : Int32) (h : Hp) : Option (Int32 × Hp) :=
  lp (fun s : (Int32 × Hp) => mX12_sign_l17f x0 x1 s.1 s.2) (x2, h)
noncomputable def mX12_sign (x0 : Nat) (x1 : Int32) (h : Hp) : Option (Int32 × Hp) :=
  if (hpS h x0).1 = 13 then
  (gI 12 10 x0 h).bind fun v1 =>
  if (480 : Int32) < (v1 + (4 : Int32)) then
  (some ((-1 : Int32), h))
  else (mX12_sign_l17 x0 x1 (24 : Int32) h)
  else none

noncomputable def mX12_end (x0 : Nat) (x1 : Int32) (h : Hp) : Option (Int32 × Hp) :=
  if (hpS h x0).1 = 13 then
  (gI 12 10 x0 h).bind fun v1 =>
  (mX12_in x1 (0 : Int32) v1).bind fun v2 =>
  if v2 = 0 then
  (some ((0 : Int32), h))
  else ((sI 12 10 x0 x1 h).bind fun h4 =>
  some ((1 : Int32), h4))
  else none

noncomputable def mX12_see (x0 : Nat) (x1 : Int32) (h : Hp) : Option Int32 :=
  if (hpS h x0).1 = 13 then
  (gI 12 11 x0 h).bind fun v1 =>
  if x1 < v1 then
  ((gR 12 9 x0 h).bind fun v2 =>
  (ldI v2 x1 h).bind fun v3 =>
  some v3)
  else (some (-1 : Int32))
  else none

noncomputable def mX12_next_b26 (x0 : Nat) (h : Hp) : Option (Hp ⊕ Hp) :=
  (gI 12 12 x0 h).bind fun v4 =>
  (sI 12 12 x0 (v4 + (1 : Int32)) h).bind fun h5 =>
  some (.inl h5)
noncomputable def mX12_next_b367 (t0 : Nat) (t1 : Int32) (h : Hp) : Option Hp :=
  (sI 12 14 t0 t1 h).bind fun h23 =>
  some h23
noncomputable def mX12_next_b362 (t0 : Nat) (h : Hp) : Option Hp :=
  mX12_next_b367 t0 (4 : Int32) h
noncomputable def mX12_next_b298 (t0 : Nat) (t1 : Int32) (h : Hp) : Option Hp :=
  (sI 12 14 t0 t1 h).bind fun h31 =>
  some h31
noncomputable def mX12_next_b263 (x0 : Nat) (t0 : Nat) (t1 : Int32) (h : Hp) : Option (Hp ⊕ Hp) :=
  (sI 12 15 t0 t1 h).bind fun h35 =>
  (gI 12 12 x0 h35).bind fun v36 =>
  (sI 12 12 x0 (v36 + (1 : Int32)) h35).bind fun h37 =>
  some (.inl h37)
noncomputable def mX12_next_l205f (x0 : Nat) (h : Hp) : Option (Hp ⊕ Hp) :=
  (gI 12 12 x0 h).bind fun v24 =>
  (mX12_see x0 v24 h).bind fun v25 =>
  (mX12_in v25 (48 : Int32) (57 : Int32)).bind fun v27 =>
  if v27 = 0 then
  (xt ((gI 12 12 x0 h).bind fun v29 =>
  (gI 12 13 x0 h).bind fun v30 =>
  if (3 : Int32) < (v29 - v30) then
  (mX12_next_b298 x0 (1 : Int32) h)
  else (mX12_next_b298 x0 (3 : Int32) h)))
  else ((gI 12 12 x0 h).bind fun v32 =>
  (gI 12 13 x0 h).bind fun v33 =>
  if (v32 - v33) < (3 : Int32) then
  ((gI 12 15 x0 h).bind fun v38 =>
  (gI 12 12 x0 h).bind fun v39 =>
  (mX12_see x0 v39 h).bind fun v40 =>
  mX12_next_b263 x0 x0 ((((10 : Int32) * v38) + v40) - (48 : Int32)) h)
  else ((gI 12 15 x0 h).bind fun v34 =>
  mX12_next_b263 x0 x0 v34 h))
noncomputable def mX12_next_l205 (x0 : Nat) (h : Hp) : Option Hp :=
  lp (fun s : Hp => mX12_next_l205f x0 s) h
noncomputable def mX12_next_b188 (t0 : Nat) (t1 : Int32) (h : Hp) : Option Hp :=
  (sI 12 14 t0 t1 h).bind fun h49 =>
  some h49
noncomputable def mX12_next_b152 (x0 : Nat) (t0 : Nat) (t1 : Int64) (h : Hp) : Option (Hp ⊕ Hp) :=
  (sL 12 21 t0 t1 h).bind fun h53 =>
  (gI 12 12 x0 h53).bind fun v54 =>
  (sI 12 12 x0 (v54 + (1 : Int32)) h53).bind fun h55 =>
  some (.inl h55)
noncomputable def mX12_next_l90f (x0 : Nat) (h : Hp) : Option (Hp ⊕ Hp) :=
  (gI 12 12 x0 h).bind fun v42 =>
  (mX12_see x0 v42 h).bind fun v43 =>
  (mX12_in v43 (97 : Int32) (122 : Int32)).bind fun v45 =>
  if v45 = 0 then
  (xt ((gI 12 12 x0 h).bind fun v47 =>
  (gI 12 13 x0 h).bind fun v48 =>
  if (6 : Int32) < (v47 - v48) then
  (mX12_next_b188 x0 (1 : Int32) h)
  else (mX12_next_b188 x0 (2 : Int32) h)))
  else ((gI 12 12 x0 h).bind fun v50 =>
  (gI 12 13 x0 h).bind fun v51 =>
  if (v50 - v51) < (6 : Int32) then
  ((gL 12 21 x0 h).bind fun v56 =>
  (gI 12 12 x0 h).bind fun v57 =>
  (mX12_see x0 v57 h).bind fun v58 =>
  mX12_next_b152 x0 x0 ((((27 : Int64) * v56) + v58.toInt64) - (96 : Int64)) h)
  else ((gL 12 21 x0 h).bind fun v52 =>
  mX12_next_b152 x0 x0 v52 h))
noncomputable def mX12_next_l90 (x0 : Nat) (h : Hp) : Option Hp :=
  lp (fun s : Hp => mX12_next_l90f x0 s) h
noncomputable def mX12_next_l0f (x0 : Nat) (h : Hp) : Option (Hp ⊕ Hp) :=
  (gI 12 12 x0 h).bind fun v1 =>
  (mX12_see x0 v1 h).bind fun v2 =>
  if v2 = (32 : Int32) then
  (mX12_next_b26 x0 h)
  else ((gI 12 12 x0 h).bind fun v6 =>
  (mX12_see x0 v6 h).bind fun v7 =>
  if v7 = (10 : Int32) then
  (mX12_next_b26 x0 h)
  else (xt ((gI 12 12 x0 h).bind fun v9 =>
  (sI 12 13 x0 v9 h).bind fun h10 =>
  (sI 12 15 x0 (0 : Int32) h10).bind fun h11 =>
  (sL 12 21 x0 (0 : Int64) h11).bind fun h12 =>
  (gI 12 12 x0 h12).bind fun v13 =>
  (mX12_see x0 v13 h12).bind fun v14 =>
  if v14 = (-1 : Int32) then
  ((sI 12 14 x0 (0 : Int32) h12).bind fun h60 =>
  some h60)
  else ((mX12_in v14 (97 : Int32) (122 : Int32)).bind fun v16 =>
  if v16 = 0 then
  ((mX12_in v14 (48 : Int32) (57 : Int32)).bind fun v18 =>
  if v18 = 0 then
  ((gI 12 12 x0 h12).bind fun v20 =>
  (sI 12 12 x0 (v20 + (1 : Int32)) h12).bind fun h21 =>
  (sI 12 15 x0 v14 h21).bind fun h22 =>
  if v14 = (33 : Int32) then
  (mX12_next_b362 x0 h22)
  else (if v14 = (38 : Int32) then
  (mX12_next_b362 x0 h22)
  else (if v14 = (124 : Int32) then
  (mX12_next_b362 x0 h22)
  else (if v14 = (40 : Int32) then
  (mX12_next_b362 x0 h22)
  else (if v14 = (41 : Int32) then
  (mX12_next_b362 x0 h22)
  else (if v14 = (44 : Int32) then
  (mX12_next_b362 x0 h22)
  else (if v14 = (59 : Int32) then
  (mX12_next_b362 x0 h22)
  else (mX12_next_b367 x0 (1 : Int32) h22))))))))
  else (mX12_next_l205 x0 h12))
  else (mX12_next_l90 x0 h12)))))
noncomputable def mX12_next_l0 (x0 : Nat) (h : Hp) : Option Hp :=
  lp (fun s : Hp => mX12_next_l0f x0 s) h
noncomputable def mX12_next (x0 : Nat) (h : Hp) : Option Hp :=
  if (hpS h x0).1 = 13 then
  mX12_next_l0 x0 h
  else none

noncomputable def mX12_spelled_l4f (x0 : Nat) (x1 : Int64) (x3 : Int32) : Option ((Int64 × Int32) ⊕ Int64) :=
  (mJ0_length_8abf5 x0).bind fun v1 =>
  if x3 < v1 then
  ((mJ0_charAt_5068e x0 x3).bind fun v3 =>
  some (.inl (((((27 : Int64) * x1) + v3.toInt64) - (96 : Int64)), (x3 + (1 : Int32)))))
  else (xt (some x1))
noncomputable def mX12_spelled_l4 (x0 : Nat) (x1 : Int64) (x3 : Int32) : Option Int64 :=
  lp (fun s : (Int64 × Int32) => mX12_spelled_l4f x0 s.1 s.2) (x1, x3)
noncomputable def mX12_spelled (x0 : Nat) : Option Int64 :=
  mX12_spelled_l4 x0 (0 : Int64) (0 : Int32)

noncomputable def mX12_isWord (x0 : Nat) (x1 : Nat) (h : Hp) : Option Int32 :=
  if (hpS h x0).1 = 13 then
  (gI 12 17 x0 h).bind fun v1 =>
  if v1 = 0 then
  ((gI 12 14 x0 h).bind fun v2 =>
  if v2 = (2 : Int32) then
  ((gL 12 21 x0 h).bind fun v3 =>
  (mX12_spelled x1).bind fun v4 =>
  if (lg_cmp v3 v4) = 0 then
  (some (1 : Int32))
  else (some (0 : Int32)))
  else (some (0 : Int32)))
  else (some (0 : Int32))
  else none

noncomputable def mX12_isSign (x0 : Nat) (x1 : Int32) (h : Hp) : Option Int32 :=
  if (hpS h x0).1 = 13 then
  (gI 12 17 x0 h).bind fun v1 =>
  if v1 = 0 then
  ((gI 12 14 x0 h).bind fun v2 =>
  if v2 = (4 : Int32) then
  ((gI 12 15 x0 h).bind fun v3 =>
  if v3 = x1 then
  (some (1 : Int32))
  else (some (0 : Int32)))
  else (some (0 : Int32)))
  else (some (0 : Int32))
  else none

noncomputable def mX12_isName (x0 : Nat) (h : Hp) : Option Int32 :=
  if (hpS h x0).1 = 13 then
  (gI 12 14 x0 h).bind fun v1 =>
  if v1 = (2 : Int32) then
  ((mX12_isWord x0 12 h).bind fun v2 =>
  if v2 = 0 then
  ((mX12_isWord x0 13 h).bind fun v4 =>
  if v4 = 0 then
  ((mX12_isWord x0 14 h).bind fun v6 =>
  if v6 = 0 then
  ((mX12_isWord x0 15 h).bind fun v8 =>
  if v8 = 0 then
  ((mX12_isWord x0 16 h).bind fun v10 =>
  if v10 = 0 then
  ((mX12_isWord x0 17 h).bind fun v12 =>
  if v12 = 0 then
  ((mX12_isWord x0 18 h).bind fun v14 =>
  if v14 = 0 then
  ((mX12_isWord x0 19 h).bind fun v16 =>
  if v16 = 0 then
  ((mX12_isWord x0 20 h).bind fun v18 =>
  if v18 = 0 then
  ((mX12_isWord x0 21 h).bind fun v20 =>
  if v20 = 0 then
  ((mX12_isWord x0 22 h).bind fun v22 =>
  if v22 = 0 then
  (some (1 : Int32))
  else (some (0 : Int32)))
  else (some (0 : Int32)))
  else (some (0 : Int32)))
  else (some (0 : Int32)))
  else (some (0 : Int32)))
  else (some (0 : Int32)))
  else (some (0 : Int32)))
  else (some (0 : Int32)))
  else (some (0 : Int32)))
  else (some (0 : Int32)))
  else (some (0 : Int32)))
  else (some (0 : Int32))
  else none

noncomputable def mX12_wrong_b22 (x0 : Nat) (t0 : Nat) (t1 : Int32) (h : Hp) : Option Hp :=
  (sI 12 17 t0 t1 h).bind fun h3 =>
  (gI 12 13 x0 h3).bind fun v4 =>
  (sI 12 18 x0 v4 h3).bind fun h5 =>
  some h5
noncomputable def mX12_wrong (x0 : Nat) (x1 : Int32) (h : Hp) : Option Hp :=
  if (hpS h x0).1 = 13 then
  (gI 12 17 x0 h).bind fun v1 =>
  if v1 = 0 then
  ((gI 12 14 x0 h).bind fun v2 =>
  if v2 = (1 : Int32) then
  (mX12_wrong_b22 x0 x0 (1 : Int32) h)
  else (mX12_wrong_b22 x0 x0 x1 h))
  else (some h)
  else none

noncomputable def mX12_passes (x0 : Nat) (h : Hp) : Option Hp :=
  if (hpS h x0).1 = 13 then
  (gI 12 17 x0 h).bind fun v1 =>
  if v1 = 0 then
  ((mX12_next x0 h).bind fun h3 =>
  some h3)
  else (some h)
  else none

noncomputable def mX12_must_b9 (x0 : Nat) (h : Hp) : Option Hp :=
  (mX12_passes x0 h).bind fun h2 =>
  some h2
noncomputable def mX12_must (x0 : Nat) (x1 : Int32) (h : Hp) : Option Hp :=
  if (hpS h x0).1 = 13 then
  if x1 = 0 then
  ((mX12_wrong x0 (1 : Int32) h).bind fun h4 =>
  mX12_must_b9 x0 h4)
  else (mX12_must_b9 x0 h)
  else none

noncomputable def mX12_number_b33 (x0 : Nat) (h : Hp) : Option (Int32 × Hp) :=
  (gI 12 15 x0 h).bind fun v5 =>
  (mX12_passes x0 h).bind fun h7 =>
  some (v5, h7)
noncomputable def mX12_number (x0 : Nat) (x1 : Int32) (x2 : Int32) (h : Hp) : Option (Int32 × Hp) :=
  if (hpS h x0).1 = 13 then
  (gI 12 14 x0 h).bind fun v1 =>
  if v1 = (3 : Int32) then
  ((gI 12 15 x0 h).bind fun v2 =>
  (mX12_in v2 x1 x2).bind fun v3 =>
  if v3 = 0 then
  ((mX12_wrong x0 (2 : Int32) h).bind fun h9 =>
  mX12_number_b33 x0 h9)
  else (mX12_number_b33 x0 h))
  else ((mX12_wrong x0 (1 : Int32) h).bind fun h11 =>
  mX12_number_b33 x0 h11)
  else none

noncomputable def mX12_room_b10 (x0 : Nat) (h : Hp) : Option Hp :=
  (mX12_passes x0 h).bind fun h2 =>
  some h2
noncomputable def mX12_room (x0 : Nat) (x1 : Int32) (x2 : Int32) (h : Hp) : Option Hp :=
  if (hpS h x0).1 = 13 then
  if x1 = x2 then
  ((mX12_wrong x0 (4 : Int32) h).bind fun h4 =>
  mX12_room_b10 x0 h4)
  else (mX12_room_b10 x0 h)
  else none

noncomputable def mX12_factNamed_l2f (x0 : Nat) (h : Hp) (x1 : Int32) : Option (Int32 ⊕ Int32) :=
  (gR 12 1 x0 h).bind fun v1 =>
  (ldI v1 (1 : Int32) h).bind fun v2 =>
  if x1 < v2 then
  ((gR 12 3 x0 h).bind fun v3 =>
  (ldL v3 x1 h).bind fun v4 =>
  (gL 12 21 x0 h).bind fun v5 =>
  if (lg_cmp v4 v5) = 0 then
  (xt (some x1))
  else (some (.inl (x1 + (1 : Int32)))))
  else (xt (some (-1 : Int32)))
noncomputable def mX12_factNamed_l2 (x0 : Nat) (x1 : Int32) (h : Hp) : Option Int32 :=
  lp (fun s : Int32 => mX12_factNamed_l2f x0 h s) x1
noncomputable def mX12_factNamed (x0 : Nat) (h : Hp) : Option Int32 :=
  if (hpS h x0).1 = 13 then
  mX12_factNamed_l2 x0 (0 : Int32) h
  else none

noncomputable def mX12_countNamed_l2f (x0 : Nat) (h : Hp) (x1 : Int32) : Option (Int32 ⊕ Int32) :=
  (gR 12 1 x0 h).bind fun v1 =>
  (ldI v1 (2 : Int32) h).bind fun v2 =>
  if x1 < v2 then
  ((gR 12 3 x0 h).bind fun v3 =>
  (ldL v3 ((8 : Int32) + x1) h).bind fun v4 =>
  (gL 12 21 x0 h).bind fun v5 =>
  if (lg_cmp v4 v5) = 0 then
  (xt (some x1))
  else (some (.inl (x1 + (1 : Int32)))))
  else (xt (some (-1 : Int32)))
noncomputable def mX12_countNamed_l2 (x0 : Nat) (x1 : Int32) (h : Hp) : Option Int32 :=
  lp (fun s : Int32 => mX12_countNamed_l2f x0 h s) x1
noncomputable def mX12_countNamed (x0 : Nat) (h : Hp) : Option Int32 :=
  if (hpS h x0).1 = 13 then
  mX12_countNamed_l2 x0 (0 : Int32) h
  else none

noncomputable def mX12_here_b38 (x0 : Nat) (x2 : Int32) (h : Hp) : Option (Int32 × Hp) :=
  (gI 12 17 x0 h).bind fun v5 =>
  if v5 = 0 then
  (some (x2, h))
  else (some ((0 : Int32), h))
noncomputable def mX12_here_b27 (x0 : Nat) (t0 : Int32) (h : Hp) : Option (Int32 × Hp) :=
  if t0 = (-1 : Int32) then
  ((mX12_wrong x0 (3 : Int32) h).bind fun h7 =>
  mX12_here_b38 x0 t0 h7)
  else (mX12_here_b38 x0 t0 h)
noncomputable def mX12_here_b12 (x0 : Nat) (x1 : Int32) (h : Hp) : Option (Int32 × Hp) :=
  if x1 = 0 then
  ((mX12_countNamed x0 h).bind fun v3 =>
  mX12_here_b27 x0 v3 h)
  else ((mX12_factNamed x0 h).bind fun v8 =>
  mX12_here_b27 x0 v8 h)
noncomputable def mX12_here (x0 : Nat) (x1 : Int32) (h : Hp) : Option (Int32 × Hp) :=
  if (hpS h x0).1 = 13 then
  (mX12_isName x0 h).bind fun v1 =>
  if v1 = 0 then
  ((mX12_wrong x0 (1 : Int32) h).bind fun h11 =>
  mX12_here_b12 x0 x1 h11)
  else (mX12_here_b12 x0 x1 h)
  else none

noncomputable def mX12_known (x0 : Nat) (x1 : Int32) (h : Hp) : Option (Int32 × Hp) :=
  if (hpS h x0).1 = 13 then
  b2 (mX12_here x0 x1 h) fun v1 h2 =>
  (mX12_passes x0 h2).bind fun h4 =>
  some (v1, h4)
  else none

noncomputable def mX12_newName_b50 (x0 : Nat) (h : Hp) : Option Hp :=
  (mX12_passes x0 h).bind fun h9 =>
  some h9
noncomputable def mX12_newName_b33 (x0 : Nat) (x1 : Int32) (h : Hp) : Option Hp :=
  (gI 12 17 x0 h).bind fun v7 =>
  if v7 = 0 then
  ((gR 12 3 x0 h).bind fun v10 =>
  (gL 12 21 x0 h).bind fun v11 =>
  (stL v10 x1 v11 h).bind fun h12 =>
  mX12_newName_b50 x0 h12)
  else (mX12_newName_b50 x0 h)
noncomputable def mX12_newName_b28 (x0 : Nat) (x1 : Int32) (h : Hp) : Option Hp :=
  (mX12_wrong x0 (3 : Int32) h).bind fun h6 =>
  mX12_newName_b33 x0 x1 h6
noncomputable def mX12_newName_b12 (x0 : Nat) (x1 : Int32) (h : Hp) : Option Hp :=
  (mX12_factNamed x0 h).bind fun v3 =>
  if v3 = (-1 : Int32) then
  ((mX12_countNamed x0 h).bind fun v13 =>
  if v13 = (-1 : Int32) then
  (mX12_newName_b33 x0 x1 h)
  else (mX12_newName_b28 x0 x1 h))
  else (mX12_newName_b28 x0 x1 h)
noncomputable def mX12_newName (x0 : Nat) (x1 : Int32) (h : Hp) : Option Hp :=
  if (hpS h x0).1 = 13 then
  (mX12_isName x0 h).bind fun v1 =>
  if v1 = 0 then
  ((mX12_wrong x0 (1 : Int32) h).bind fun h16 =>
  mX12_newName_b12 x0 x1 h16)
  else (mX12_newName_b12 x0 x1 h)
  else none

noncomputable def mX12_step (x0 : Nat) (x1 : Int32) (x2 : Int32) (h : Hp) : Option Hp :=
  if (hpS h x0).1 = 13 then
  (gI 12 17 x0 h).bind fun v1 =>
  if v1 = 0 then
  ((gR 12 1 x0 h).bind fun v2 =>
  (gR 12 1 x0 h).bind fun v3 =>
  (ldI v3 (7 : Int32) h).bind fun v4 =>
  (stI v2 ((150 : Int32) + v4) (((100 : Int32) * x1) + x2) h).bind fun h5 =>
  (gR 12 1 x0 h5).bind fun v6 =>
  (ldI v6 (7 : Int32) h5).bind fun v7 =>
  (stI v6 (7 : Int32) (v7 + (1 : Int32)) h5).bind fun h8 =>
  some h8)
  else (some h)
  else none

noncomputable def mX12_opens_b13 (x0 : Nat) (h : Hp) : Option Hp :=
  (gI 12 16 x0 h).bind fun v2 =>
  (sI 12 16 x0 (v2 + (1 : Int32)) h).bind fun h3 =>
  (mX12_passes x0 h3).bind fun h5 =>
  some h5
noncomputable def mX12_opens (x0 : Nat) (h : Hp) : Option Hp :=
  if (hpS h x0).1 = 13 then
  (gI 12 16 x0 h).bind fun v1 =>
  if v1 = (5 : Int32) then
  ((mX12_wrong x0 (4 : Int32) h).bind fun h7 =>
  mX12_opens_b13 x0 h7)
  else (mX12_opens_b13 x0 h)
  else none

noncomputable def mX12_oneTooMany_b57 (x0 : Nat) (h : Hp) : Option Hp :=
  (mX12_wrong x0 (4 : Int32) h).bind fun h5 =>
  some h5
noncomputable def mX12_oneTooMany_b27 (x0 : Nat) (t0 : Nat) (t1 : Int32) (h : Hp) : Option Hp :=
  (mX12_wrong t0 t1 h).bind fun h14 =>
  mX12_oneTooMany_b57 x0 h14
noncomputable def mX12_oneTooMany (x0 : Nat) (h : Hp) : Option Hp :=
  if (hpS h x0).1 = 13 then
  (gI 12 14 x0 h).bind fun v1 =>
  if v1 = (3 : Int32) then
  ((gI 12 15 x0 h).bind fun v10 =>
  (mX12_in v10 (0 : Int32) (6 : Int32)).bind fun v11 =>
  if v11 = 0 then
  (mX12_oneTooMany_b27 x0 x0 (2 : Int32) h)
  else (mX12_oneTooMany_b27 x0 x0 (4 : Int32) h))
  else ((mX12_isSign x0 (33 : Int32) h).bind fun v2 =>
  if v2 = 0 then
  ((mX12_isSign x0 (40 : Int32) h).bind fun v6 =>
  if v6 = 0 then
  (b2 (mX12_here x0 (1 : Int32) h) fun v8 h9 =>
  mX12_oneTooMany_b57 x0 h9)
  else (mX12_oneTooMany_b57 x0 h))
  else (mX12_oneTooMany_b57 x0 h))
  else none

abbrev GTX12_both : Type := (Nat → Hp → Option Hp) × (Nat → Hp → Option Hp) × (Nat → Hp → Option Hp) × (Nat → Hp → Option Hp)
noncomputable def mX12_both_l4f (g : GTX12_both) (x0 : Nat) (h : Hp) : Option (Hp ⊕ Hp) :=
  (mX12_isSign x0 (38 : Int32) h).bind fun v3 =>
  if v3 = 0 then
  (xt (some h))
  else ((mX12_next x0 h).bind fun h6 =>
  (g.2.2.1 x0 h6).bind fun h8 =>
  (mX12_step x0 (2 : Int32) (0 : Int32) h8).bind fun h10 =>
  some (.inl h10))
noncomputable def mX12_both_l4 (g : GTX12_both) (x0 : Nat) (h : Hp) : Option Hp :=
  lp (fun s : Hp => mX12_both_l4f g x0 s) h
noncomputable def mX12_both_F (g : GTX12_both) (x0 : Nat) (h : Hp) : Option Hp :=
  if (hpS h x0).1 = 13 then
  (g.2.2.1 x0 h).bind fun h2 =>
  mX12_both_l4 g x0 h2
  else none
noncomputable def mX12_either_l4f (g : GTX12_both) (x0 : Nat) (h : Hp) : Option (Hp ⊕ Hp) :=
  (mX12_isSign x0 (124 : Int32) h).bind fun v3 =>
  if v3 = 0 then
  (xt (some h))
  else ((mX12_next x0 h).bind fun h6 =>
  (g.1 x0 h6).bind fun h8 =>
  (mX12_step x0 (3 : Int32) (0 : Int32) h8).bind fun h10 =>
  some (.inl h10))
noncomputable def mX12_either_l4 (g : GTX12_both) (x0 : Nat) (h : Hp) : Option Hp :=
  lp (fun s : Hp => mX12_either_l4f g x0 s) h
noncomputable def mX12_either_F (g : GTX12_both) (x0 : Nat) (h : Hp) : Option Hp :=
  if (hpS h x0).1 = 13 then
  (g.1 x0 h).bind fun h2 =>
  mX12_either_l4 g x0 h2
  else none
noncomputable def mX12_one_F (g : GTX12_both) (x0 : Nat) (h : Hp) : Option Hp :=
  if (hpS h x0).1 = 13 then
  (gI 12 17 x0 h).bind fun v1 =>
  if v1 = 0 then
  ((mX12_isSign x0 (33 : Int32) h).bind fun v2 =>
  if v2 = 0 then
  ((mX12_isSign x0 (40 : Int32) h).bind fun v4 =>
  if v4 = 0 then
  ((gI 12 14 x0 h).bind fun v6 =>
  if v6 = (3 : Int32) then
  ((g.2.2.2 x0 h).bind fun h12 =>
  some h12)
  else (b2 (mX12_known x0 (1 : Int32) h) fun v7 h8 =>
  (mX12_step x0 (0 : Int32) v7 h8).bind fun h10 =>
  some h10))
  else ((mX12_opens x0 h).bind fun h14 =>
  (g.2.1 x0 h14).bind fun h16 =>
  (mX12_isSign x0 (41 : Int32) h16).bind fun v17 =>
  (mX12_must x0 v17 h16).bind fun h20 =>
  (gI 12 16 x0 h20).bind fun v21 =>
  (sI 12 16 x0 (v21 - (1 : Int32)) h20).bind fun h22 =>
  some h22))
  else ((mX12_opens x0 h).bind fun h24 =>
  (g.2.2.1 x0 h24).bind fun h26 =>
  (gI 12 16 x0 h26).bind fun v27 =>
  (sI 12 16 x0 (v27 - (1 : Int32)) h26).bind fun h28 =>
  (mX12_step x0 (1 : Int32) (0 : Int32) h28).bind fun h30 =>
  some h30))
  else (some h)
  else none
noncomputable def mX12_someOf_b65 (g : GTX12_both) (x0 : Nat) (x1 : Int32) (x2 : Int32) (h : Hp) : Option ((Int32 × Int32 × Hp) ⊕ Hp) :=
  (g.2.1 x0 h).bind fun h21 =>
  (mX12_isSign x0 (44 : Int32) h21).bind fun v22 =>
  if v22 = 0 then
  (some (.inl ((x2 + (1 : Int32)), v22, h21)))
  else ((mX12_next x0 h21).bind fun h25 =>
  some (.inl ((x2 + (1 : Int32)), v22, h25)))
noncomputable def mX12_someOf_l51f (g : GTX12_both) (x0 : Nat) (x1 : Int32) (x2 : Int32) (x3 : Int32) (h : Hp) : Option ((Int32 × Int32 × Hp) ⊕ Hp) :=
  if x3 = 0 then
  (xt ((mX12_isSign x0 (41 : Int32) h).bind fun v12 =>
  (mX12_must x0 v12 h).bind fun h15 =>
  (gI 12 16 x0 h15).bind fun v16 =>
  (sI 12 16 x0 (v16 - (1 : Int32)) h15).bind fun h17 =>
  (mX12_step x0 (4 : Int32) (((10 : Int32) * x1) + x2) h17).bind fun h19 =>
  some h19))
  else (if x2 = (6 : Int32) then
  ((mX12_oneTooMany x0 h).bind fun h27 =>
  mX12_someOf_b65 g x0 x1 x2 h27)
  else (mX12_someOf_b65 g x0 x1 x2 h))
noncomputable def mX12_someOf_l51 (g : GTX12_both) (x0 : Nat) (x1 : Int32) (x2 : Int32) (x3 : Int32) (h : Hp) : Option Hp :=
  lp (fun s : (Int32 × Int32 × Hp) => mX12_someOf_l51f g x0 x1 s.1 s.2.1 s.2.2) (x2, x3, h)
noncomputable def mX12_someOf_b50 (g : GTX12_both) (x0 : Nat) (x1 : Int32) (x2 : Int32) (t0 : Int32) (h : Hp) : Option Hp :=
  mX12_someOf_l51 g x0 x1 x2 t0 h
noncomputable def mX12_someOf_b32 (g : GTX12_both) (x0 : Nat) (x1 : Int32) (h : Hp) : Option Hp :=
  (mX12_opens x0 h).bind fun h10 =>
  (gI 12 17 x0 h10).bind fun v11 =>
  if v11 = 0 then
  (mX12_someOf_b50 g x0 x1 (0 : Int32) (1 : Int32) h10)
  else (mX12_someOf_b50 g x0 x1 (0 : Int32) (0 : Int32) h10)
noncomputable def mX12_someOf_F (g : GTX12_both) (x0 : Nat) (h : Hp) : Option Hp :=
  if (hpS h x0).1 = 13 then
  b2 (mX12_number x0 (0 : Int32) (6 : Int32) h) fun v1 h2 =>
  (mX12_isWord x0 22 h2).bind fun v3 =>
  (mX12_must x0 v3 h2).bind fun h6 =>
  (mX12_isSign x0 (40 : Int32) h6).bind fun v7 =>
  if v7 = 0 then
  ((mX12_wrong x0 (1 : Int32) h6).bind fun h29 =>
  mX12_someOf_b32 g x0 v1 h29)
  else (mX12_someOf_b32 g x0 v1 h6)
  else none
noncomputable def mg_X12_both : Nat → GTX12_both
  | 0 => (fun _ _ => none, fun _ _ => none, fun _ _ => none, fun _ _ => none)
  | n + 1 => (mX12_both_F (mg_X12_both n), mX12_either_F (mg_X12_both n), mX12_one_F (mg_X12_both n), mX12_someOf_F (mg_X12_both n))
noncomputable def mX12_both (n : Nat) (x0 : Nat) (h : Hp) : Option Hp := (mg_X12_both n).1 x0 h
noncomputable def mX12_either (n : Nat) (x0 : Nat) (h : Hp) : Option Hp := (mg_X12_both n).2.1 x0 h
noncomputable def mX12_one (n : Nat) (x0 : Nat) (h : Hp) : Option Hp := (mg_X12_both n).2.2.1 x0 h
noncomputable def mX12_someOf (n : Nat) (x0 : Nat) (h : Hp) : Option Hp := (mg_X12_both n).2.2.2 x0 h

noncomputable def mX12_expr_b69 (x1 : Int32) (t0 : Nat) (t1 : Int32) (t2 : Int32) (t3 : Int32) (h : Hp) : Option (Int32 × Hp) :=
  (stI t0 t1 (t2 + t3) h).bind fun h17 =>
  some (x1, h17)
noncomputable def mX12_expr (x0 : Nat) (h : Hp) : Option (Int32 × Hp) :=
  if (hpS h x0).1 = 13 then
  (gR 12 1 x0 h).bind fun v1 =>
  (ldI v1 (6 : Int32) h).bind fun v2 =>
  (gR 12 1 x0 h).bind fun v3 =>
  (gR 12 1 x0 h).bind fun v4 =>
  (ldI v4 (7 : Int32) h).bind fun v5 =>
  (stI v3 ((84 : Int32) + v2) v5 h).bind fun h6 =>
  (sI 12 16 x0 (0 : Int32) h6).bind fun h7 =>
  (mX12_either 40 x0 h7).bind fun h9 =>
  (gR 12 1 x0 h9).bind fun v10 =>
  (gR 12 1 x0 h9).bind fun v11 =>
  (ldI v11 (7 : Int32) h9).bind fun v12 =>
  (stI v10 ((117 : Int32) + v2) v12 h9).bind fun h13 =>
  (gR 12 1 x0 h13).bind fun v14 =>
  (ldI v14 (6 : Int32) h13).bind fun v15 =>
  (gI 12 17 x0 h13).bind fun v16 =>
  if v16 = 0 then
  (mX12_expr_b69 v2 v14 (6 : Int32) v15 (1 : Int32) h13)
  else (mX12_expr_b69 v2 v14 (6 : Int32) v15 (0 : Int32) h13)
  else none

noncomputable def mX12_readFact_b38 (x0 : Nat) (x1 : Int32) (t0 : Int32) (h : Hp) : Option Hp :=
  (mX12_isSign x0 (59 : Int32) h).bind fun v8 =>
  (mX12_must x0 v8 h).bind fun h11 =>
  (gI 12 17 x0 h11).bind fun v12 =>
  if v12 = 0 then
  ((gR 12 1 x0 h11).bind fun v13 =>
  (stI v13 ((8 : Int32) + x1) t0 h11).bind fun h14 =>
  (gR 12 1 x0 h14).bind fun v15 =>
  (ldI v15 (1 : Int32) h14).bind fun v16 =>
  (stI v15 (1 : Int32) (v16 + (1 : Int32)) h14).bind fun h17 =>
  some h17)
  else (some h11)
noncomputable def mX12_readFact (x0 : Nat) (h : Hp) : Option Hp :=
  if (hpS h x0).1 = 13 then
  (gR 12 1 x0 h).bind fun v1 =>
  (ldI v1 (1 : Int32) h).bind fun v2 =>
  (mX12_room x0 v2 (8 : Int32) h).bind fun h4 =>
  (mX12_newName x0 v2 h4).bind fun h6 =>
  (gI 12 14 x0 h6).bind fun v7 =>
  if v7 = (3 : Int32) then
  (b2 (mX12_number x0 (1 : Int32) (9 : Int32) h6) fun v18 h19 =>
  mX12_readFact_b38 x0 v2 v18 h19)
  else (mX12_readFact_b38 x0 v2 (5 : Int32) h6)
  else none

noncomputable def mX12_readNever_b122 (x0 : Nat) (h : Hp) : Option Hp :=
  (mX12_passes x0 h).bind fun h21 =>
  some h21
noncomputable def mX12_readNever_b108 (x0 : Nat) (x1 : Int32) (x3 : Int32) (h : Hp) : Option Hp :=
  if x3 = 0 then
  ((sI 12 17 x0 (5 : Int32) h).bind fun h22 =>
  (sI 12 18 x0 x1 h22).bind fun h23 =>
  mX12_readNever_b122 x0 h23)
  else (mX12_readNever_b122 x0 h)
noncomputable def mX12_readNever_l74f (x0 : Nat) (x1 : Int32) (x3 : Int32) (x4 : Int32) (h : Hp) : Option ((Int32 × Int32 × Hp) ⊕ Hp) :=
  (gR 12 1 x0 h).bind fun v18 =>
  (ldI v18 (1 : Int32) h).bind fun v19 =>
  if x4 < ((1 : Int32) <<< (v19 &&& 31)) then
  (if x3 = 0 then
  ((gR 12 1 x0 h).bind fun v24 =>
  b2 (mX12_mayBe x0 v24 x4 h) fun v25 h26 =>
  some (.inl (v25, (x4 + (1 : Int32)), h26)))
  else (xt (mX12_readNever_b108 x0 x1 x3 h)))
  else (xt (mX12_readNever_b108 x0 x1 x3 h))
noncomputable def mX12_readNever_l74 (x0 : Nat) (x1 : Int32) (x3 : Int32) (x4 : Int32) (h : Hp) : Option Hp :=
  lp (fun s : (Int32 × Int32 × Hp) => mX12_readNever_l74f x0 x1 s.1 s.2.1 s.2.2) (x3, x4, h)
noncomputable def mX12_readNever_b36 (x0 : Nat) (x1 : Int32) (x2 : Int32) (h : Hp) : Option Hp :=
  (gI 12 17 x0 h).bind fun v10 =>
  if v10 = 0 then
  ((gR 12 1 x0 h).bind fun v11 =>
  (gR 12 1 x0 h).bind fun v12 =>
  (ldI v12 (3 : Int32) h).bind fun v13 =>
  (stI v11 ((78 : Int32) + v13) x2 h).bind fun h14 =>
  (gR 12 1 x0 h14).bind fun v15 =>
  (ldI v15 (3 : Int32) h14).bind fun v16 =>
  (stI v15 (3 : Int32) (v16 + (1 : Int32)) h14).bind fun h17 =>
  mX12_readNever_l74 x0 x1 (0 : Int32) (0 : Int32) h17)
  else (some h)
noncomputable def mX12_readNever (x0 : Nat) (h : Hp) : Option Hp :=
  if (hpS h x0).1 = 13 then
  (gI 12 13 x0 h).bind fun v1 =>
  (gR 12 1 x0 h).bind fun v2 =>
  (ldI v2 (3 : Int32) h).bind fun v3 =>
  (mX12_room x0 v3 (6 : Int32) h).bind fun h5 =>
  b2 (mX12_expr x0 h5) fun v6 h7 =>
  (mX12_isSign x0 (59 : Int32) h7).bind fun v8 =>
  if v8 = 0 then
  ((mX12_wrong x0 (1 : Int32) h7).bind fun h28 =>
  mX12_readNever_b36 x0 v1 v6 h28)
  else (mX12_readNever_b36 x0 v1 v6 h7)
  else none

noncomputable def mX12_readCount_b124 (x0 : Nat) (x1 : Int32) (x2 : Int32) (x3 : Int32) (x4 : Int32) (h : Hp) : Option ((Int32 × Hp) ⊕ Hp) :=
  some (.inl (x4, h))
noncomputable def mX12_readCount_l76f (x0 : Nat) (x1 : Int32) (x2 : Int32) (x3 : Int32) (x4 : Int32) (h : Hp) : Option ((Int32 × Hp) ⊕ Hp) :=
  (mX12_isWord x0 17 h).bind fun v21 =>
  if v21 = 0 then
  (xt ((mX12_isSign x0 (59 : Int32) h).bind fun v23 =>
  (mX12_must x0 v23 h).bind fun h26 =>
  (gI 12 17 x0 h26).bind fun v27 =>
  if v27 = 0 then
  ((gR 12 1 x0 h26).bind fun v28 =>
  (stI v28 ((16 : Int32) + x1) x2 h26).bind fun h29 =>
  (gR 12 1 x0 h29).bind fun v30 =>
  (stI v30 ((21 : Int32) + x1) x3 h29).bind fun h31 =>
  (gR 12 1 x0 h31).bind fun v32 =>
  (stI v32 ((26 : Int32) + x1) x4 h31).bind fun h33 =>
  (gR 12 1 x0 h33).bind fun v34 =>
  (ldI v34 (2 : Int32) h33).bind fun v35 =>
  (stI v34 (2 : Int32) (v35 + (1 : Int32)) h33).bind fun h36 =>
  some h36)
  else (some h26)))
  else ((mX12_room x0 x4 (4 : Int32) h).bind fun h38 =>
  b2 (mX12_expr x0 h38) fun v39 h40 =>
  (gI 12 17 x0 h40).bind fun v41 =>
  if v41 = 0 then
  ((gR 12 1 x0 h40).bind fun v42 =>
  (stI v42 (((31 : Int32) + ((4 : Int32) * x1)) + x4) v39 h40).bind fun h43 =>
  mX12_readCount_b124 x0 x1 x2 x3 (x4 + (1 : Int32)) h43)
  else (mX12_readCount_b124 x0 x1 x2 x3 x4 h40))
noncomputable def mX12_readCount_l76 (x0 : Nat) (x1 : Int32) (x2 : Int32) (x3 : Int32) (x4 : Int32) (h : Hp) : Option Hp :=
  lp (fun s : (Int32 × Hp) => mX12_readCount_l76f x0 x1 x2 x3 s.1 s.2) (x4, h)
noncomputable def mX12_readCount_b73 (x0 : Nat) (x1 : Int32) (x2 : Int32) (x3 : Int32) (h : Hp) : Option Hp :=
  mX12_readCount_l76 x0 x1 x2 x3 (0 : Int32) h
noncomputable def mX12_readCount (x0 : Nat) (h : Hp) : Option Hp :=
  if (hpS h x0).1 = 13 then
  (gR 12 1 x0 h).bind fun v1 =>
  (ldI v1 (2 : Int32) h).bind fun v2 =>
  (mX12_room x0 v2 (5 : Int32) h).bind fun h4 =>
  (mX12_newName x0 ((8 : Int32) + v2) h4).bind fun h6 =>
  (mX12_isWord x0 15 h6).bind fun v7 =>
  (mX12_must x0 v7 h6).bind fun h10 =>
  b2 (mX12_number x0 (0 : Int32) (999 : Int32) h10) fun v11 h12 =>
  (mX12_isWord x0 16 h12).bind fun v13 =>
  (mX12_must x0 v13 h12).bind fun h16 =>
  b2 (mX12_number x0 (0 : Int32) (999 : Int32) h16) fun v17 h18 =>
  (mX12_isWord x0 17 h18).bind fun v19 =>
  if v19 = 0 then
  ((mX12_wrong x0 (1 : Int32) h18).bind fun h45 =>
  mX12_readCount_b73 x0 v2 v11 v17 h45)
  else (mX12_readCount_b73 x0 v2 v11 v17 h18)
  else none

noncomputable def mX12_readPlea (x0 : Nat) (h : Hp) : Option Hp :=
  if (hpS h x0).1 = 13 then
  (gR 12 1 x0 h).bind fun v1 =>
  (ldI v1 (4 : Int32) h).bind fun v2 =>
  (mX12_room x0 v2 (6 : Int32) h).bind fun h4 =>
  b2 (mX12_known x0 (0 : Int32) h4) fun v5 h6 =>
  b2 (mX12_expr x0 h6) fun v7 h8 =>
  (mX12_isSign x0 (59 : Int32) h8).bind fun v9 =>
  (mX12_must x0 v9 h8).bind fun h12 =>
  (gI 12 17 x0 h12).bind fun v13 =>
  if v13 = 0 then
  ((gR 12 1 x0 h12).bind fun v14 =>
  (gR 12 1 x0 h12).bind fun v15 =>
  (ldI v15 (4 : Int32) h12).bind fun v16 =>
  (stI v14 ((66 : Int32) + v16) v5 h12).bind fun h17 =>
  (gR 12 1 x0 h17).bind fun v18 =>
  (gR 12 1 x0 h17).bind fun v19 =>
  (ldI v19 (4 : Int32) h17).bind fun v20 =>
  (stI v18 ((72 : Int32) + v20) v7 h17).bind fun h21 =>
  (gR 12 1 x0 h21).bind fun v22 =>
  (ldI v22 (4 : Int32) h21).bind fun v23 =>
  (stI v22 (4 : Int32) (v23 + (1 : Int32)) h21).bind fun h24 =>
  some h24)
  else (some h12)
  else none

noncomputable def mX12_readSays_b117 (t0 : Nat) (t1 : Int32) (t2 : Int32) (t3 : Int32) (h : Hp) : Option Hp :=
  (stI t0 t1 (t2 ||| t3) h).bind fun h25 =>
  some h25
noncomputable def mX12_readSays_b60 (x0 : Nat) (x1 : Int32) (x2 : Int32) (x3 : Int32) (h : Hp) : Option Hp :=
  (mX12_passes x0 h).bind fun h14 =>
  (mX12_isSign x0 (59 : Int32) h14).bind fun v15 =>
  (mX12_must x0 v15 h14).bind fun h18 =>
  (gI 12 17 x0 h18).bind fun v19 =>
  if v19 = 0 then
  ((gR 12 1 x0 h18).bind fun v20 =>
  (ldI v20 ((51 : Int32) + x1) h18).bind fun v21 =>
  (stI v20 ((51 : Int32) + x1) (v21 ||| ((1 : Int32) <<< (x3 &&& 31))) h18).bind fun h22 =>
  (gR 12 1 x0 h22).bind fun v23 =>
  (ldI v23 ((56 : Int32) + x1) h22).bind fun v24 =>
  if x2 = 0 then
  (mX12_readSays_b117 v23 ((56 : Int32) + x1) v24 (0 : Int32) h22)
  else (mX12_readSays_b117 v23 ((56 : Int32) + x1) v24 ((1 : Int32) <<< (x3 &&& 31)) h22))
  else (some h18)
noncomputable def mX12_readSays_b33 (x0 : Nat) (x1 : Int32) (x2 : Int32) (h : Hp) : Option Hp :=
  b2 (mX12_here x0 (1 : Int32) h) fun v7 h8 =>
  (gR 12 1 x0 h8).bind fun v9 =>
  (ldI v9 ((51 : Int32) + x1) h8).bind fun v10 =>
  (mX12_has v10 v7).bind fun v11 =>
  if v11 = 0 then
  (mX12_readSays_b60 x0 x1 x2 v7 h8)
  else ((mX12_wrong x0 (3 : Int32) h8).bind fun h27 =>
  mX12_readSays_b60 x0 x1 x2 v7 h27)
noncomputable def mX12_readSays_b24 (x0 : Nat) (x1 : Int32) (t0 : Int32) (h : Hp) : Option Hp :=
  if t0 = 0 then
  ((mX12_next x0 h).bind fun h29 =>
  mX12_readSays_b33 x0 x1 t0 h29)
  else (mX12_readSays_b33 x0 x1 t0 h)
noncomputable def mX12_readSays (x0 : Nat) (h : Hp) : Option Hp :=
  if (hpS h x0).1 = 13 then
  (mX12_next x0 h).bind fun h2 =>
  b2 (mX12_known x0 (0 : Int32) h2) fun v3 h4 =>
  (mX12_isSign x0 (33 : Int32) h4).bind fun v5 =>
  if v5 = 0 then
  (mX12_readSays_b24 x0 v3 (1 : Int32) h4)
  else (mX12_readSays_b24 x0 v3 (0 : Int32) h4)
  else none

noncomputable def mX12_readSame_b42 (x0 : Nat) (x1 : Int32) (x2 : Int32) (h : Hp) : Option Hp :=
  (mX12_passes x0 h).bind fun h10 =>
  (mX12_isSign x0 (59 : Int32) h10).bind fun v11 =>
  (mX12_must x0 v11 h10).bind fun h14 =>
  (gI 12 17 x0 h14).bind fun v15 =>
  if v15 = 0 then
  ((gR 12 1 x0 h14).bind fun v16 =>
  (ldI v16 ((61 : Int32) + x1) h14).bind fun v17 =>
  (stI v16 ((61 : Int32) + x1) (v17 ||| ((1 : Int32) <<< (x2 &&& 31))) h14).bind fun h18 =>
  (gR 12 1 x0 h18).bind fun v19 =>
  (ldI v19 ((61 : Int32) + x2) h18).bind fun v20 =>
  (stI v19 ((61 : Int32) + x2) (v20 ||| ((1 : Int32) <<< (x1 &&& 31))) h18).bind fun h21 =>
  some h21)
  else (some h14)
noncomputable def mX12_readSame_b37 (x0 : Nat) (x1 : Int32) (x2 : Int32) (h : Hp) : Option Hp :=
  (mX12_wrong x0 (3 : Int32) h).bind fun h8 =>
  mX12_readSame_b42 x0 x1 x2 h8
noncomputable def mX12_readSame (x0 : Nat) (h : Hp) : Option Hp :=
  if (hpS h x0).1 = 13 then
  (mX12_next x0 h).bind fun h2 =>
  b2 (mX12_known x0 (0 : Int32) h2) fun v3 h4 =>
  b2 (mX12_here x0 (0 : Int32) h4) fun v5 h6 =>
  if v3 = v5 then
  (mX12_readSame_b37 x0 v3 v5 h6)
  else ((gR 12 1 x0 h6).bind fun v22 =>
  (ldI v22 ((61 : Int32) + v3) h6).bind fun v23 =>
  (mX12_has v23 v5).bind fun v24 =>
  if v24 = 0 then
  (mX12_readSame_b42 x0 v3 v5 h6)
  else (mX12_readSame_b37 x0 v3 v5 h6))
  else none

noncomputable def mX12_readLimit_b12 (x0 : Nat) (h : Hp) : Option Hp :=
  (mX12_passes x0 h).bind fun h3 =>
  b2 (mX12_number x0 (1 : Int32) (999 : Int32) h3) fun v4 h5 =>
  (mX12_isSign x0 (59 : Int32) h5).bind fun v6 =>
  (mX12_must x0 v6 h5).bind fun h9 =>
  (gI 12 17 x0 h9).bind fun v10 =>
  if v10 = 0 then
  ((sZ 12 22 x0 (1 : Int32) h9).bind fun h11 =>
  (gR 12 1 x0 h11).bind fun v12 =>
  (stI v12 (5 : Int32) v4 h11).bind fun h13 =>
  some h13)
  else (some h9)
noncomputable def mX12_readLimit (x0 : Nat) (h : Hp) : Option Hp :=
  if (hpS h x0).1 = 13 then
  (gI 12 22 x0 h).bind fun v1 =>
  if v1 = 0 then
  (mX12_readLimit_b12 x0 h)
  else ((mX12_wrong x0 (3 : Int32) h).bind fun h15 =>
  mX12_readLimit_b12 x0 h15)
  else none

noncomputable def mX12_readLine_b117 (x0 : Nat) (h : Hp) : Option Hp :=
  (gR 12 1 x0 h).bind fun v17 =>
  (ldI v17 (0 : Int32) h).bind fun v18 =>
  (stI v17 (0 : Int32) (v18 + (1 : Int32)) h).bind fun h19 =>
  some h19
noncomputable def mX12_readLine (x0 : Nat) (h : Hp) : Option Hp :=
  if (hpS h x0).1 = 13 then
  (mX12_isWord x0 12 h).bind fun v1 =>
  if v1 = 0 then
  ((mX12_isWord x0 13 h).bind fun v3 =>
  if v3 = 0 then
  ((mX12_isWord x0 14 h).bind fun v5 =>
  if v5 = 0 then
  ((mX12_isWord x0 18 h).bind fun v7 =>
  if v7 = 0 then
  ((mX12_isWord x0 19 h).bind fun v9 =>
  if v9 = 0 then
  ((mX12_isWord x0 20 h).bind fun v11 =>
  if v11 = 0 then
  ((mX12_isWord x0 21 h).bind fun v13 =>
  if v13 = 0 then
  ((mX12_wrong x0 (1 : Int32) h).bind fun h16 =>
  mX12_readLine_b117 x0 h16)
  else ((mX12_readLimit x0 h).bind fun h21 =>
  mX12_readLine_b117 x0 h21))
  else ((mX12_readSame x0 h).bind fun h23 =>
  mX12_readLine_b117 x0 h23))
  else ((mX12_readSays x0 h).bind fun h25 =>
  mX12_readLine_b117 x0 h25))
  else ((mX12_readPlea x0 h).bind fun h27 =>
  mX12_readLine_b117 x0 h27))
  else ((mX12_readCount x0 h).bind fun h29 =>
  mX12_readLine_b117 x0 h29))
  else ((mX12_readNever x0 h).bind fun h31 =>
  mX12_readLine_b117 x0 h31))
  else ((mX12_readFact x0 h).bind fun h33 =>
  mX12_readLine_b117 x0 h33)
  else none

noncomputable def mX12_takes (x0 : Nat) (h : Hp) : Option Hp :=
  if (hpS h x0).1 = 13 then
  (gI 12 10 x0 h).bind fun v1 =>
  (sI 12 11 x0 v1 h).bind fun h2 =>
  (sI 12 10 x0 (0 : Int32) h2).bind fun h3 =>
  (sI 12 12 x0 (0 : Int32) h3).bind fun h4 =>
  (sI 12 17 x0 (0 : Int32) h4).bind fun h5 =>
  (sI 12 18 x0 (-1 : Int32) h5).bind fun h6 =>
  (mX12_next x0 h6).bind fun h8 =>
  some h8
  else none

noncomputable def mX12_isRead_b24 (x0 : Nat) (t0 : Nat) (t1 : Int32) (h : Hp) : Option (Int32 × Hp) :=
  (sI 12 20 t0 t1 h).bind fun h5 =>
  (gI 12 17 x0 h5).bind fun v6 =>
  if v6 = 0 then
  (some ((1 : Int32), h5))
  else (some ((0 : Int32), h5))
noncomputable def mX12_isRead (x0 : Nat) (h : Hp) : Option (Int32 × Hp) :=
  if (hpS h x0).1 = 13 then
  (gI 12 17 x0 h).bind fun v1 =>
  (sI 12 19 x0 v1 h).bind fun h2 =>
  (gI 12 17 x0 h2).bind fun v3 =>
  if v3 = 0 then
  (mX12_isRead_b24 x0 x0 (-1 : Int32) h2)
  else ((gI 12 18 x0 h2).bind fun v4 =>
  mX12_isRead_b24 x0 x0 v4 h2)
  else none

noncomputable def mX12_puts (x0 : Nat) (x1 : Int32) (x2 : Int32) (x3 : Int32) (h : Hp) : Option Hp :=
  if (hpS h x0).1 = 13 then
  (gR 12 4 x0 h).bind fun v1 =>
  (stI v1 (((19 : Int32) + ((8 : Int32) * x1)) + x2) x3 h).bind fun h2 =>
  some h2
  else none

noncomputable def mX12_begins_l36f (x0 : Nat) (x1 : Int32) (h : Hp) : Option ((Int32 × Hp) ⊕ Hp) :=
  (gR 12 0 x0 h).bind fun v5 =>
  (ldI v5 (2 : Int32) h).bind fun v6 =>
  if x1 < v6 then
  ((mX12_puts x0 x1 (0 : Int32) x1 h).bind fun h16 =>
  (gR 12 0 x0 h16).bind fun v17 =>
  (ldI v17 ((16 : Int32) + x1) h16).bind fun v18 =>
  (mX12_puts x0 x1 (2 : Int32) v18 h16).bind fun h20 =>
  (gR 12 0 x0 h20).bind fun v21 =>
  (ldI v21 ((21 : Int32) + x1) h20).bind fun v22 =>
  (mX12_puts x0 x1 (3 : Int32) v22 h20).bind fun h24 =>
  (gR 12 0 x0 h24).bind fun v25 =>
  (ldI v25 ((51 : Int32) + x1) h24).bind fun v26 =>
  (mX12_puts x0 x1 (4 : Int32) v26 h24).bind fun h28 =>
  (gR 12 0 x0 h28).bind fun v29 =>
  (ldI v29 ((56 : Int32) + x1) h28).bind fun v30 =>
  (mX12_puts x0 x1 (5 : Int32) v30 h28).bind fun h32 =>
  (mX12_puts x0 x1 (7 : Int32) x1 h32).bind fun h34 =>
  some (.inl ((x1 + (1 : Int32)), h34)))
  else (xt ((sI 12 8 x0 (0 : Int32) h).bind fun h7 =>
  (gR 12 7 x0 h7).bind fun v8 =>
  (stZ v8 (0 : Int32) (0 : Int32) h7).bind fun h9 =>
  (gR 12 7 x0 h9).bind fun v10 =>
  (stZ v10 (1 : Int32) (0 : Int32) h9).bind fun h11 =>
  (sZ 12 39 x0 (0 : Int32) h11).bind fun h12 =>
  (mX12_laysTables x0 h12).bind fun h14 =>
  some h14))
noncomputable def mX12_begins_l36 (x0 : Nat) (x1 : Int32) (h : Hp) : Option Hp :=
  lp (fun s : (Int32 × Hp) => mX12_begins_l36f x0 s.1 s.2) (x1, h)
noncomputable def mX12_begins_l2f (x0 : Nat) (x1 : Int32) (h : Hp) : Option ((Int32 × Hp) ⊕ Hp) :=
  if x1 < (83 : Int32) then
  ((gR 12 4 x0 h).bind fun v35 =>
  (stI v35 x1 (0 : Int32) h).bind fun h36 =>
  some (.inl ((x1 + (1 : Int32)), h36)))
  else (xt ((gR 12 4 x0 h).bind fun v1 =>
  (gR 12 0 x0 h).bind fun v2 =>
  (ldI v2 (2 : Int32) h).bind fun v3 =>
  (stI v1 (18 : Int32) v3 h).bind fun h4 =>
  mX12_begins_l36 x0 (0 : Int32) h4))
noncomputable def mX12_begins_l2 (x0 : Nat) (x1 : Int32) (h : Hp) : Option Hp :=
  lp (fun s : (Int32 × Hp) => mX12_begins_l2f x0 s.1 s.2) (x1, h)
noncomputable def mX12_begins (x0 : Nat) (h : Hp) : Option Hp :=
  if (hpS h x0).1 = 13 then
  mX12_begins_l2 x0 (0 : Int32) h
  else none

noncomputable def mX12_suit_l99f (x0 : Nat) (x1 : Int32) (h : Hp) : Option ((Int32 × Hp) ⊕ (Int32 × Hp)) :=
  if x1 < (13 : Int32) then
  ((gR 12 2 x0 h).bind fun v13 =>
  (gR 12 3 x0 h).bind fun v14 =>
  (ldL v14 x1 h).bind fun v15 =>
  (stL v13 x1 v15 h).bind fun h16 =>
  some (.inl ((x1 + (1 : Int32)), h16)))
  else (xt ((mX12_begins x0 h).bind fun h10 =>
  (gR 12 0 x0 h10).bind fun v11 =>
  (ldI v11 (0 : Int32) h10).bind fun v12 =>
  some (v12, h10)))
noncomputable def mX12_suit_l99 (x0 : Nat) (x1 : Int32) (h : Hp) : Option (Int32 × Hp) :=
  lp (fun s : (Int32 × Hp) => mX12_suit_l99f x0 s.1 s.2) (x1, h)
noncomputable def mX12_suit_l72f (x0 : Nat) (x1 : Int32) (h : Hp) : Option ((Int32 × Hp) ⊕ (Int32 × Hp)) :=
  if x1 < (640 : Int32) then
  ((gR 12 0 x0 h).bind fun v17 =>
  (gR 12 1 x0 h).bind fun v18 =>
  (ldI v18 x1 h).bind fun v19 =>
  (stI v17 x1 v19 h).bind fun h20 =>
  some (.inl ((x1 + (1 : Int32)), h20)))
  else (xt (mX12_suit_l99 x0 (0 : Int32) h))
noncomputable def mX12_suit_l72 (x0 : Nat) (x1 : Int32) (h : Hp) : Option (Int32 × Hp) :=
  lp (fun s : (Int32 × Hp) => mX12_suit_l72f x0 s.1 s.2) (x1, h)
noncomputable def mX12_suit_b61 (x0 : Nat) (h : Hp) : Option (Int32 × Hp) :=
  b2 (mX12_isRead x0 h) fun v7 h8 =>
  if v7 = 0 then
  (some ((-1 : Int32), h8))
  else (mX12_suit_l72 x0 (0 : Int32) h8)
noncomputable def mX12_suit_l40f (x0 : Nat) (h : Hp) : Option (Hp ⊕ (Int32 × Hp)) :=
  (gI 12 17 x0 h).bind fun v6 =>
  if v6 = 0 then
  ((gI 12 14 x0 h).bind fun v21 =>
  if v21 = 0 then
  (xt (mX12_suit_b61 x0 h))
  else ((mX12_readLine x0 h).bind fun h23 =>
  some (.inl h23)))
  else (xt (mX12_suit_b61 x0 h))
noncomputable def mX12_suit_l40 (x0 : Nat) (h : Hp) : Option (Int32 × Hp) :=
  lp (fun s : Hp => mX12_suit_l40f x0 s) h
noncomputable def mX12_suit_l6f (x0 : Nat) (x1 : Int32) (h : Hp) : Option ((Int32 × Hp) ⊕ (Int32 × Hp)) :=
  if x1 < (640 : Int32) then
  ((gR 12 1 x0 h).bind fun v24 =>
  (stI v24 x1 (0 : Int32) h).bind fun h25 =>
  some (.inl ((x1 + (1 : Int32)), h25)))
  else (xt ((gR 12 1 x0 h).bind fun v3 =>
  (stI v3 (5 : Int32) (300 : Int32) h).bind fun h4 =>
  (sZ 12 22 x0 (0 : Int32) h4).bind fun h5 =>
  mX12_suit_l40 x0 h5))
noncomputable def mX12_suit_l6 (x0 : Nat) (x1 : Int32) (h : Hp) : Option (Int32 × Hp) :=
  lp (fun s : (Int32 × Hp) => mX12_suit_l6f x0 s.1 s.2) (x1, h)
noncomputable def mX12_suit (x0 : Nat) (h : Hp) : Option (Int32 × Hp) :=
  if (hpS h x0).1 = 13 then
  (mX12_takes x0 h).bind fun h2 =>
  mX12_suit_l6 x0 (0 : Int32) h2
  else none

noncomputable def mX12_fault (x0 : Nat) (x1 : Int32) (h : Hp) : Option Int32 :=
  if (hpS h x0).1 = 13 then
  if x1 = 0 then
  ((gI 12 19 x0 h).bind fun v2 =>
  some v2)
  else (if x1 = (1 : Int32) then
  ((gI 12 20 x0 h).bind fun v1 =>
  some v1)
  else (some (-1 : Int32)))
  else none

noncomputable def mX12_many_l4f (x0 : Nat) (h : Hp) (x1 : Int32) (x2 : Int32) : Option ((Int32 × Int32) ⊕ Int32) :=
  if x2 < (8 : Int32) then
  ((ldI x0 x2 h).bind fun v1 =>
  (mX12_bits v1).bind fun v2 =>
  some (.inl ((x1 + v2), (x2 + (1 : Int32)))))
  else (xt (some x1))
noncomputable def mX12_many_l4 (x0 : Nat) (x1 : Int32) (x2 : Int32) (h : Hp) : Option Int32 :=
  lp (fun s : (Int32 × Int32) => mX12_many_l4f x0 h s.1 s.2) (x1, x2)
noncomputable def mX12_many (x0 : Nat) (h : Hp) : Option Int32 :=
  mX12_many_l4 x0 (0 : Int32) (0 : Int32) h

noncomputable def mX12_holdsIn_l5f (x0 : Nat) (x1 : Nat) (x2 : Int32) (h : Hp) (x3 : Int32) (x4 : Int32) : Option ((Int32 × Int32) ⊕ Int32) :=
  if x4 < (8 : Int32) then
  ((ldI x1 x4 h).bind fun v1 =>
  (gR 12 25 x0 h).bind fun v2 =>
  (ldI v2 (((8 : Int32) * x2) + x4) h).bind fun v3 =>
  (mX12_bits (v1 &&& v3)).bind fun v4 =>
  some (.inl ((x3 + v4), (x4 + (1 : Int32)))))
  else (xt (some x3))
noncomputable def mX12_holdsIn_l5 (x0 : Nat) (x1 : Nat) (x2 : Int32) (x3 : Int32) (x4 : Int32) (h : Hp) : Option Int32 :=
  lp (fun s : (Int32 × Int32) => mX12_holdsIn_l5f x0 x1 x2 h s.1 s.2) (x3, x4)
noncomputable def mX12_holdsIn (x0 : Nat) (x1 : Nat) (x2 : Int32) (h : Hp) : Option Int32 :=
  if (hpS h x0).1 = 13 then
  mX12_holdsIn_l5 x0 x1 x2 (0 : Int32) (0 : Int32) h
  else none

noncomputable def mX12_isSure (x0 : Nat) (x1 : Nat) (x2 : Int32) (h : Hp) : Option Int32 :=
  if (hpS h x0).1 = 13 then
  (mX12_holdsIn x0 x1 x2 h).bind fun v1 =>
  (mX12_many x1 h).bind fun v3 =>
  if v1 = v3 then
  (some (1 : Int32))
  else (some (0 : Int32))
  else none

noncomputable def mX12_its (x0 : Nat) (x1 : Int32) (x2 : Int32) (h : Hp) : Option Int32 :=
  if (hpS h x0).1 = 13 then
  (gR 12 4 x0 h).bind fun v1 =>
  (ldI v1 (((19 : Int32) + ((8 : Int32) * x1)) + x2) h).bind fun v2 =>
  some v2
  else none

noncomputable def mX12_isFact (x0 : Nat) (x1 : Int32) (h : Hp) : Option Int32 :=
  if (hpS h x0).1 = 13 then
  (gR 12 0 x0 h).bind fun v1 =>
  (ldI v1 (1 : Int32) h).bind fun v2 =>
  (mX12_in x1 (0 : Int32) (v2 - (1 : Int32))).bind fun v3 =>
  z01 v3
  else none

noncomputable def mX12_isCount (x0 : Nat) (x1 : Int32) (h : Hp) : Option Int32 :=
  if (hpS h x0).1 = 13 then
  (gR 12 4 x0 h).bind fun v1 =>
  (ldI v1 (18 : Int32) h).bind fun v2 =>
  (mX12_in x1 (0 : Int32) (v2 - (1 : Int32))).bind fun v3 =>
  z01 v3
  else none

noncomputable def mX12_isLeft (x0 : Nat) (x1 : Int32) (h : Hp) : Option Int32 :=
  if (hpS h x0).1 = 13 then
  (gR 12 27 x0 h).bind fun v1 =>
  (mX12_isIn v1 (0 : Int32) x1 h).bind fun v2 =>
  z01 v2
  else none

noncomputable def mX12_needs (x0 : Nat) (x1 : Int32) (h : Hp) : Option Int32 :=
  if (hpS h x0).1 = 13 then
  (gR 12 0 x0 h).bind fun v1 =>
  (mX12_its x0 x1 (0 : Int32) h).bind fun v2 =>
  (ldI v1 ((26 : Int32) + v2) h).bind fun v4 =>
  some v4
  else none

noncomputable def mX12_need (x0 : Nat) (x1 : Int32) (x2 : Int32) (h : Hp) : Option Int32 :=
  if (hpS h x0).1 = 13 then
  (gR 12 0 x0 h).bind fun v1 =>
  (mX12_its x0 x1 (0 : Int32) h).bind fun v2 =>
  (ldI v1 (((31 : Int32) + ((4 : Int32) * v2)) + x2) h).bind fun v4 =>
  some v4
  else none

noncomputable def mX12_barOf_b56 (x0 : Nat) (x1 : Int32) (x3 : Int32) (x4 : Int32) (h : Hp) : Option ((Int32 × Int32) ⊕ Int32) :=
  some (.inl (x3, (x4 + (1 : Int32))))
noncomputable def mX12_barOf_l5f (x0 : Nat) (x1 : Int32) (h : Hp) (x3 : Int32) (x4 : Int32) : Option ((Int32 × Int32) ⊕ Int32) :=
  (gR 12 0 x0 h).bind fun v1 =>
  (ldI v1 (4 : Int32) h).bind fun v2 =>
  if x4 < v2 then
  ((gR 12 0 x0 h).bind fun v3 =>
  (ldI v3 ((66 : Int32) + x4) h).bind fun v4 =>
  (mX12_its x0 x1 (0 : Int32) h).bind fun v5 =>
  if v4 = v5 then
  (if x3 = 0 then
  (xt ((gR 12 0 x0 h).bind fun v7 =>
  (ldI v7 ((72 : Int32) + x4) h).bind fun v8 =>
  some v8))
  else (mX12_barOf_b56 x0 x1 (x3 + (-1 : Int32)) x4 h))
  else (mX12_barOf_b56 x0 x1 x3 x4 h))
  else (xt (some (-1 : Int32)))
noncomputable def mX12_barOf_l5 (x0 : Nat) (x1 : Int32) (x3 : Int32) (x4 : Int32) (h : Hp) : Option Int32 :=
  lp (fun s : (Int32 × Int32) => mX12_barOf_l5f x0 x1 h s.1 s.2) (x3, x4)
noncomputable def mX12_barOf (x0 : Nat) (x1 : Int32) (x2 : Int32) (h : Hp) : Option Int32 :=
  if (hpS h x0).1 = 13 then
  mX12_barOf_l5 x0 x1 x2 (0 : Int32) h
  else none

noncomputable def mX12_bars_l2f (x0 : Nat) (x1 : Int32) (h : Hp) (x2 : Int32) : Option (Int32 ⊕ Int32) :=
  (mX12_barOf x0 x1 x2 h).bind fun v1 =>
  if v1 = (-1 : Int32) then
  (xt (some x2))
  else (some (.inl (x2 + (1 : Int32))))
noncomputable def mX12_bars_l2 (x0 : Nat) (x1 : Int32) (x2 : Int32) (h : Hp) : Option Int32 :=
  lp (fun s : Int32 => mX12_bars_l2f x0 x1 h s) x2
noncomputable def mX12_bars (x0 : Nat) (x1 : Int32) (h : Hp) : Option Int32 :=
  if (hpS h x0).1 = 13 then
  mX12_bars_l2 x0 x1 (0 : Int32) h
  else none

noncomputable def mX12_isWon (x0 : Nat) (x1 : Int32) (x2 : Int32) (h : Hp) : Option Int32 :=
  if (hpS h x0).1 = 13 then
  (gR 12 26 x0 h).bind fun v1 =>
  (mX12_its x0 x1 (0 : Int32) h).bind fun v2 =>
  (mX12_isIn v1 v2 x2 h).bind fun v4 =>
  z01 v4
  else none

noncomputable def mX12_backBy_b79 (x0 : Nat) (x1 : Int32) (x2 : Int32) (x3 : Int32) (x4 : Int32) (h : Hp) : Option ((Int32 × Int32) ⊕ Int32) :=
  some (.inl (x3, (x4 + (1 : Int32))))
noncomputable def mX12_backBy_l10f (x0 : Nat) (x1 : Int32) (x2 : Int32) (h : Hp) (x3 : Int32) (x4 : Int32) : Option ((Int32 × Int32) ⊕ Int32) :=
  (gR 12 4 x0 h).bind fun v3 =>
  (ldI v3 (18 : Int32) h).bind fun v4 =>
  if x4 < v4 then
  (if x2 = 0 then
  (xt (some x3))
  else ((mX12_its x0 x4 (4 : Int32) h).bind fun v5 =>
  (mX12_its x0 x4 (1 : Int32) h).bind fun v7 =>
  (mX12_its x0 x1 (1 : Int32) h).bind fun v9 =>
  if v7 < v9 then
  ((mX12_bits (v5 &&& x2)).bind fun v11 =>
  (mX12_bits x2).bind fun v13 =>
  if ((2 : Int32) * v11) < v13 then
  (mX12_backBy_b79 x0 x1 x2 x3 x4 h)
  else ((gR 12 29 x0 h).bind fun v15 =>
  (ldI v15 x4 h).bind fun v16 =>
  mX12_backBy_b79 x0 x1 x2 (mmin x3 v16) x4 h))
  else (mX12_backBy_b79 x0 x1 x2 x3 x4 h)))
  else (xt (some x3))
noncomputable def mX12_backBy_l10 (x0 : Nat) (x1 : Int32) (x2 : Int32) (x3 : Int32) (x4 : Int32) (h : Hp) : Option Int32 :=
  lp (fun s : (Int32 × Int32) => mX12_backBy_l10f x0 x1 x2 h s.1 s.2) (x3, x4)
noncomputable def mX12_backBy (x0 : Nat) (x1 : Int32) (x2 : Int32) (h : Hp) : Option Int32 :=
  if (hpS h x0).1 = 13 then
  (mX12_its x0 x1 (1 : Int32) h).bind fun v1 =>
  mX12_backBy_l10 x0 x1 x2 v1 (0 : Int32) h
  else none

noncomputable def mX12_laysBacks_l46f (x0 : Nat) (x1 : Int32) (x2 : Int32) (h : Hp) : Option ((Int32 × Hp) ⊕ ((Int32 × Hp) ⊕ Hp)) :=
  (gR 12 4 x0 h).bind fun v5 =>
  (ldI v5 (18 : Int32) h).bind fun v6 =>
  if x2 < v6 then
  ((gR 12 29 x0 h).bind fun v7 =>
  (mX12_its x0 x2 (4 : Int32) h).bind fun v8 =>
  (mX12_backBy x0 x2 v8 h).bind fun v10 =>
  (stI v7 x2 v10 h).bind fun h12 =>
  some (.inl ((x2 + (1 : Int32)), h12)))
  else (xt (some (.inl ((x1 + (1 : Int32)), h))))
noncomputable def mX12_laysBacks_l46 (x0 : Nat) (x1 : Int32) (x2 : Int32) (h : Hp) : Option ((Int32 × Hp) ⊕ Hp) :=
  lp (fun s : (Int32 × Hp) => mX12_laysBacks_l46f x0 x1 s.1 s.2) (x2, h)
noncomputable def mX12_laysBacks_l33f (x0 : Nat) (x1 : Int32) (h : Hp) : Option ((Int32 × Hp) ⊕ Hp) :=
  (gR 12 4 x0 h).bind fun v3 =>
  (ldI v3 (18 : Int32) h).bind fun v4 =>
  if x1 < v4 then
  (mX12_laysBacks_l46 x0 x1 (0 : Int32) h)
  else (xt (some h))
noncomputable def mX12_laysBacks_l33 (x0 : Nat) (x1 : Int32) (h : Hp) : Option Hp :=
  lp (fun s : (Int32 × Hp) => mX12_laysBacks_l33f x0 s.1 s.2) (x1, h)
noncomputable def mX12_laysBacks_l2f (x0 : Nat) (x1 : Int32) (h : Hp) : Option ((Int32 × Hp) ⊕ Hp) :=
  (gR 12 4 x0 h).bind fun v1 =>
  (ldI v1 (18 : Int32) h).bind fun v2 =>
  if x1 < v2 then
  ((gR 12 29 x0 h).bind fun v13 =>
  (mX12_its x0 x1 (1 : Int32) h).bind fun v14 =>
  (stI v13 x1 v14 h).bind fun h16 =>
  some (.inl ((x1 + (1 : Int32)), h16)))
  else (xt (mX12_laysBacks_l33 x0 (1 : Int32) h))
noncomputable def mX12_laysBacks_l2 (x0 : Nat) (x1 : Int32) (h : Hp) : Option Hp :=
  lp (fun s : (Int32 × Hp) => mX12_laysBacks_l2f x0 s.1 s.2) (x1, h)
noncomputable def mX12_laysBacks (x0 : Nat) (h : Hp) : Option Hp :=
  if (hpS h x0).1 = 13 then
  mX12_laysBacks_l2 x0 (0 : Int32) h
  else none

noncomputable def mX12_failsBy_b130 (x4 : Int32) (h : Hp) : Option (Int32 × Hp) :=
  if x4 = 0 then
  (some ((4 : Int32), h))
  else (some ((3 : Int32), h))
noncomputable def mX12_failsBy_l144f (x0 : Nat) (x1 : Int32) (x2 : Int32) (h : Hp) (x6 : Int32) : Option (Int32 ⊕ (Int32 × Hp)) :=
  (mX12_bars x0 x1 h).bind fun v11 =>
  if x6 < v11 then
  ((gR 12 28 x0 h).bind fun v19 =>
  (mX12_barOf x0 x1 x6 h).bind fun v20 =>
  (mX12_isSure x0 v19 v20 h).bind fun v22 =>
  if v22 = 0 then
  ((gR 12 27 x0 h).bind fun v24 =>
  (mX12_barOf x0 x1 x6 h).bind fun v25 =>
  (mX12_isSure x0 v24 v25 h).bind fun v27 =>
  if v27 = 0 then
  (some (.inl (x6 + (1 : Int32))))
  else (xt (some ((5 : Int32), h))))
  else (xt (some ((5 : Int32), h))))
  else (xt ((mX12_its x0 x1 (3 : Int32) h).bind fun v13 =>
  (mX12_backBy x0 x1 x2 h).bind fun v15 =>
  (gR 12 0 x0 h).bind fun v17 =>
  (ldI v17 (5 : Int32) h).bind fun v18 =>
  if v18 < (v13 + v15) then
  (some ((6 : Int32), h))
  else (some ((0 : Int32), h))))
noncomputable def mX12_failsBy_l144 (x0 : Nat) (x1 : Int32) (x2 : Int32) (x6 : Int32) (h : Hp) : Option (Int32 × Hp) :=
  lp (fun s : Int32 => mX12_failsBy_l144f x0 x1 x2 h s) x6
noncomputable def mX12_failsBy_b112 (x0 : Nat) (x1 : Int32) (x2 : Int32) (x4 : Int32) (x6 : Int32) (t0 : Int32) (h : Hp) : Option ((Int32 × Int32 × Int32) ⊕ (Int32 × Hp)) :=
  some (.inl (x4, t0, (x6 + (1 : Int32))))
noncomputable def mX12_failsBy_b107 (x0 : Nat) (x1 : Int32) (x2 : Int32) (x4 : Int32) (x6 : Int32) (h : Hp) : Option ((Int32 × Int32 × Int32) ⊕ (Int32 × Hp)) :=
  mX12_failsBy_b112 x0 x1 x2 x4 x6 (1 : Int32) h
noncomputable def mX12_failsBy_b82 (x0 : Nat) (x1 : Int32) (x2 : Int32) (x5 : Int32) (x6 : Int32) (t0 : Int32) (h : Hp) : Option ((Int32 × Int32 × Int32) ⊕ (Int32 × Hp)) :=
  if x5 = 0 then
  ((gR 12 27 x0 h).bind fun v29 =>
  (mX12_need x0 x1 x6 h).bind fun v30 =>
  (mX12_holdsIn x0 v29 v30 h).bind fun v32 =>
  if v32 = 0 then
  (mX12_failsBy_b107 x0 x1 x2 t0 x6 h)
  else (mX12_failsBy_b112 x0 x1 x2 t0 x6 (0 : Int32) h))
  else (mX12_failsBy_b107 x0 x1 x2 t0 x6 h)
noncomputable def mX12_failsBy_b77 (x0 : Nat) (x1 : Int32) (x2 : Int32) (x5 : Int32) (x6 : Int32) (h : Hp) : Option ((Int32 × Int32 × Int32) ⊕ (Int32 × Hp)) :=
  mX12_failsBy_b82 x0 x1 x2 x5 x6 (1 : Int32) h
noncomputable def mX12_failsBy_l44f (x0 : Nat) (x1 : Int32) (x2 : Int32) (h : Hp) (x4 : Int32) (x5 : Int32) (x6 : Int32) : Option ((Int32 × Int32 × Int32) ⊕ (Int32 × Hp)) :=
  (mX12_needs x0 x1 h).bind fun v9 =>
  if x6 < v9 then
  (if x4 = 0 then
  ((gR 12 28 x0 h).bind fun v34 =>
  (mX12_need x0 x1 x6 h).bind fun v35 =>
  (mX12_isSure x0 v34 v35 h).bind fun v37 =>
  if v37 = 0 then
  (mX12_failsBy_b77 x0 x1 x2 x5 x6 h)
  else (mX12_failsBy_b82 x0 x1 x2 x5 x6 (0 : Int32) h))
  else (mX12_failsBy_b77 x0 x1 x2 x5 x6 h))
  else (xt (if x4 = 0 then
  (if x5 = 0 then
  (mX12_failsBy_l144 x0 x1 x2 (0 : Int32) h)
  else (mX12_failsBy_b130 x4 h))
  else (mX12_failsBy_b130 x4 h)))
noncomputable def mX12_failsBy_l44 (x0 : Nat) (x1 : Int32) (x2 : Int32) (x4 : Int32) (x5 : Int32) (x6 : Int32) (h : Hp) : Option (Int32 × Hp) :=
  lp (fun s : (Int32 × Int32 × Int32) => mX12_failsBy_l44f x0 x1 x2 h s.1 s.2.1 s.2.2) (x4, x5, x6)
noncomputable def mX12_failsBy (x0 : Nat) (x1 : Int32) (x2 : Int32) (x3 : Int32) (h : Hp) : Option (Int32 × Hp) :=
  if (hpS h x0).1 = 13 then
  (mX12_its x0 x1 (6 : Int32) h).bind fun v1 =>
  if v1 = (1 : Int32) then
  (some ((1 : Int32), h))
  else ((gR 12 28 x0 h).bind fun v3 =>
  (mX12_laysAgreed x0 v3 x2 x3 h).bind fun h5 =>
  (gR 12 28 x0 h5).bind fun v6 =>
  (mX12_many v6 h5).bind fun v7 =>
  if v7 = 0 then
  (some ((2 : Int32), h5))
  else (mX12_failsBy_l44 x0 x1 x2 (0 : Int32) (0 : Int32) (0 : Int32) h5))
  else none

noncomputable def mX12_failing (x0 : Nat) (x1 : Int32) (h : Hp) : Option (Int32 × Hp) :=
  if (hpS h x0).1 = 13 then
  (mX12_laysBacks x0 h).bind fun h2 =>
  (mX12_its x0 x1 (4 : Int32) h2).bind fun v3 =>
  (mX12_its x0 x1 (5 : Int32) h2).bind fun v5 =>
  b2 (mX12_failsBy x0 x1 v3 v5 h2) fun v7 h8 =>
  some (v7, h8)
  else none

noncomputable def mX12_standing_b31 (x0 : Nat) (x2 : Int32) (t0 : Int32) (t1 : Int32) (h : Hp) : Option ((Int32 × Int32 × Hp) ⊕ (Int32 × Hp)) :=
  some (.inl ((t0 ||| t1), (x2 + (1 : Int32)), h))
noncomputable def mX12_standing_l4f (x0 : Nat) (x1 : Int32) (x2 : Int32) (h : Hp) : Option ((Int32 × Int32 × Hp) ⊕ (Int32 × Hp)) :=
  (gR 12 4 x0 h).bind fun v1 =>
  (ldI v1 (18 : Int32) h).bind fun v2 =>
  if x2 < v2 then
  (b2 (mX12_failing x0 x2 h) fun v3 h4 =>
  if v3 = 0 then
  (mX12_standing_b31 x0 x2 x1 ((1 : Int32) <<< (x2 &&& 31)) h4)
  else (mX12_standing_b31 x0 x2 x1 (0 : Int32) h4))
  else (xt (some (x1, h)))
noncomputable def mX12_standing_l4 (x0 : Nat) (x1 : Int32) (x2 : Int32) (h : Hp) : Option (Int32 × Hp) :=
  lp (fun s : (Int32 × Int32 × Hp) => mX12_standing_l4f x0 s.1 s.2.1 s.2.2) (x1, x2, h)
noncomputable def mX12_standing (x0 : Nat) (h : Hp) : Option (Int32 × Hp) :=
  if (hpS h x0).1 = 13 then
  mX12_standing_l4 x0 (0 : Int32) (0 : Int32) h
  else none

noncomputable def mX12_laysInjuries_b147 (x0 : Nat) (x1 : Int32) (x2 : Int32) (x3 : Int32) (h : Hp) : Option ((Int32 × Hp) ⊕ ((Int32 × Hp) ⊕ ((Int32 × Hp) ⊕ Hp))) :=
  some (.inl ((x3 + (1 : Int32)), h))
noncomputable def mX12_laysInjuries_b107 (x0 : Nat) (x1 : Int32) (x2 : Int32) (x3 : Int32) (t0 : Int32) (h : Hp) : Option ((Int32 × Hp) ⊕ ((Int32 × Hp) ⊕ ((Int32 × Hp) ⊕ Hp))) :=
  if t0 = 0 then
  (mX12_laysInjuries_b147 x0 x1 x2 x3 h)
  else ((gR 12 30 x0 h).bind fun v7 =>
  (gR 12 30 x0 h).bind fun v8 =>
  (ldI v8 x2 h).bind fun v9 =>
  (gR 12 30 x0 h).bind fun v10 =>
  (ldI v10 x3 h).bind fun v11 =>
  (stI v7 x2 (mmin v9 v11) h).bind fun h12 =>
  (gR 12 30 x0 h12).bind fun v13 =>
  (gR 12 30 x0 h12).bind fun v14 =>
  (ldI v14 x2 h12).bind fun v15 =>
  (stI v13 x3 v15 h12).bind fun h16 =>
  mX12_laysInjuries_b147 x0 x1 x2 x3 h16)
noncomputable def mX12_laysInjuries_b102 (x0 : Nat) (x1 : Int32) (x2 : Int32) (x3 : Int32) (h : Hp) : Option ((Int32 × Hp) ⊕ ((Int32 × Hp) ⊕ ((Int32 × Hp) ⊕ Hp))) :=
  mX12_laysInjuries_b107 x0 x1 x2 x3 (1 : Int32) h
noncomputable def mX12_laysInjuries_b106 (x0 : Nat) (x1 : Int32) (x2 : Int32) (x3 : Int32) (h : Hp) : Option ((Int32 × Hp) ⊕ ((Int32 × Hp) ⊕ ((Int32 × Hp) ⊕ Hp))) :=
  mX12_laysInjuries_b107 x0 x1 x2 x3 (0 : Int32) h
noncomputable def mX12_laysInjuries_l44f (x0 : Nat) (x1 : Int32) (x2 : Int32) (x3 : Int32) (h : Hp) : Option ((Int32 × Hp) ⊕ ((Int32 × Hp) ⊕ ((Int32 × Hp) ⊕ Hp))) :=
  (gR 12 4 x0 h).bind fun v3 =>
  (ldI v3 (18 : Int32) h).bind fun v4 =>
  if x3 < v4 then
  ((mX12_its x0 x3 (7 : Int32) h).bind fun v5 =>
  if v5 = x2 then
  (mX12_laysInjuries_b102 x0 x1 x2 x3 h)
  else ((gR 12 0 x0 h).bind fun v17 =>
  (ldI v17 (2 : Int32) h).bind fun v18 =>
  if x2 < v18 then
  ((gR 12 0 x0 h).bind fun v19 =>
  (ldI v19 (2 : Int32) h).bind fun v20 =>
  if x3 < v20 then
  ((gR 12 0 x0 h).bind fun v21 =>
  (ldI v21 ((61 : Int32) + x2) h).bind fun v22 =>
  (mX12_has v22 x3).bind fun v23 =>
  if v23 = 0 then
  (mX12_laysInjuries_b106 x0 x1 x2 x3 h)
  else (mX12_laysInjuries_b102 x0 x1 x2 x3 h))
  else (mX12_laysInjuries_b106 x0 x1 x2 x3 h))
  else (mX12_laysInjuries_b106 x0 x1 x2 x3 h)))
  else (xt (some (.inl ((x2 + (1 : Int32)), h))))
noncomputable def mX12_laysInjuries_l44 (x0 : Nat) (x1 : Int32) (x2 : Int32) (x3 : Int32) (h : Hp) : Option ((Int32 × Hp) ⊕ ((Int32 × Hp) ⊕ Hp)) :=
  lp (fun s : (Int32 × Hp) => mX12_laysInjuries_l44f x0 x1 x2 s.1 s.2) (x3, h)
noncomputable def mX12_laysInjuries_l31f (x0 : Nat) (x1 : Int32) (x2 : Int32) (h : Hp) : Option ((Int32 × Hp) ⊕ ((Int32 × Hp) ⊕ Hp)) :=
  (gR 12 4 x0 h).bind fun v1 =>
  (ldI v1 (18 : Int32) h).bind fun v2 =>
  if x2 < v2 then
  (mX12_laysInjuries_l44 x0 x1 x2 (0 : Int32) h)
  else (xt (some (.inl ((x1 + (1 : Int32)), h))))
noncomputable def mX12_laysInjuries_l31 (x0 : Nat) (x1 : Int32) (x2 : Int32) (h : Hp) : Option ((Int32 × Hp) ⊕ Hp) :=
  lp (fun s : (Int32 × Hp) => mX12_laysInjuries_l31f x0 x1 s.1 s.2) (x2, h)
noncomputable def mX12_laysInjuries_l23f (x0 : Nat) (x1 : Int32) (h : Hp) : Option ((Int32 × Hp) ⊕ Hp) :=
  if x1 < (8 : Int32) then
  (mX12_laysInjuries_l31 x0 x1 (0 : Int32) h)
  else (xt (some h))
noncomputable def mX12_laysInjuries_l23 (x0 : Nat) (x1 : Int32) (h : Hp) : Option Hp :=
  lp (fun s : (Int32 × Hp) => mX12_laysInjuries_l23f x0 s.1 s.2) (x1, h)
noncomputable def mX12_laysInjuries_l2f (x0 : Nat) (x1 : Int32) (h : Hp) : Option ((Int32 × Hp) ⊕ Hp) :=
  if x1 < (8 : Int32) then
  ((gR 12 30 x0 h).bind fun v25 =>
  (stI v25 x1 x1 h).bind fun h26 =>
  some (.inl ((x1 + (1 : Int32)), h26)))
  else (xt (mX12_laysInjuries_l23 x0 (0 : Int32) h))
noncomputable def mX12_laysInjuries_l2 (x0 : Nat) (x1 : Int32) (h : Hp) : Option Hp :=
  lp (fun s : (Int32 × Hp) => mX12_laysInjuries_l2f x0 s.1 s.2) (x1, h)
noncomputable def mX12_laysInjuries (x0 : Nat) (h : Hp) : Option Hp :=
  if (hpS h x0).1 = 13 then
  mX12_laysInjuries_l2 x0 (0 : Int32) h
  else none

noncomputable def mX12_sayers_b36 (x0 : Nat) (x1 : Int32) (x3 : Int32) (t0 : Int32) (t1 : Int32) (h : Hp) : Option ((Int32 × Int32) ⊕ Int32) :=
  some (.inl ((t0 ||| t1), (x3 + (1 : Int32))))
noncomputable def mX12_sayers_l4f (x0 : Nat) (x1 : Int32) (h : Hp) (x2 : Int32) (x3 : Int32) : Option ((Int32 × Int32) ⊕ Int32) :=
  (gR 12 4 x0 h).bind fun v1 =>
  (ldI v1 (18 : Int32) h).bind fun v2 =>
  if x3 < v2 then
  ((mX12_its x0 x3 (4 : Int32) h).bind fun v3 =>
  (mX12_has v3 x1).bind fun v5 =>
  if v5 = 0 then
  (mX12_sayers_b36 x0 x1 x3 x2 (0 : Int32) h)
  else (mX12_sayers_b36 x0 x1 x3 x2 ((1 : Int32) <<< (x3 &&& 31)) h))
  else (xt (some x2))
noncomputable def mX12_sayers_l4 (x0 : Nat) (x1 : Int32) (x2 : Int32) (x3 : Int32) (h : Hp) : Option Int32 :=
  lp (fun s : (Int32 × Int32) => mX12_sayers_l4f x0 x1 h s.1 s.2) (x2, x3)
noncomputable def mX12_sayers (x0 : Nat) (x1 : Int32) (h : Hp) : Option Int32 :=
  if (hpS h x0).1 = 13 then
  mX12_sayers_l4 x0 x1 (0 : Int32) (0 : Int32) h
  else none

noncomputable def mX12_fact (x0 : Nat) (x1 : Int32) (x2 : Int32) (h : Hp) : Option Int32 :=
  if (hpS h x0).1 = 13 then
  (mX12_isFact x0 x1 h).bind fun v1 =>
  if v1 = 0 then
  (some (-1 : Int32))
  else (tsw x2 (0) [(gR 12 0 x0 h).bind fun v3 =>
  (ldI v3 ((8 : Int32) + x1) h).bind fun v4 =>
  some v4,
  (gR 12 4 x0 h).bind fun v5 =>
  (ldI v5 ((0 : Int32) + x1) h).bind fun v6 =>
  some v6,
  (mX12_isKnown x0 x1 h).bind fun v7 =>
  if v7 = 0 then
  (some (2 : Int32))
  else ((gR 12 4 x0 h).bind fun v9 =>
  (ldI v9 ((8 : Int32) + x1) h).bind fun v10 =>
  some v10),
  (mX12_sayers x0 x1 h).bind fun v11 =>
  some v11] (some (-1 : Int32)))
  else none

noncomputable def mX12_of (x0 : Nat) (x1 : Int32) (x2 : Int32) (h : Hp) : Option (Int32 × Hp) :=
  if (hpS h x0).1 = 13 then
  (mX12_isCount x0 x1 h).bind fun v1 =>
  if v1 = 0 then
  (some ((-1 : Int32), h))
  else ((mX12_laysBacks x0 h).bind fun h4 =>
  (mX12_laysInjuries x0 h4).bind fun h6 =>
  tsw x2 (0) [(mX12_its x0 x1 (2 : Int32) h6).bind fun v7 =>
  some (v7, h6),
  (mX12_its x0 x1 (3 : Int32) h6).bind fun v9 =>
  some (v9, h6),
  (mX12_its x0 x1 (1 : Int32) h6).bind fun v11 =>
  some (v11, h6),
  (gR 12 29 x0 h6).bind fun v13 =>
  (ldI v13 x1 h6).bind fun v14 =>
  some (v14, h6),
  (mX12_its x0 x1 (3 : Int32) h6).bind fun v15 =>
  (gR 12 29 x0 h6).bind fun v17 =>
  (ldI v17 x1 h6).bind fun v18 =>
  some ((v15 + v18), h6),
  (mX12_needs x0 x1 h6).bind fun v19 =>
  some (v19, h6),
  (mX12_bars x0 x1 h6).bind fun v21 =>
  some (v21, h6),
  (mX12_its x0 x1 (4 : Int32) h6).bind fun v23 =>
  some (v23, h6),
  (mX12_its x0 x1 (5 : Int32) h6).bind fun v25 =>
  some (v25, h6),
  b2 (mX12_failing x0 x1 h6) fun v27 h28 =>
  some (v27, h28),
  (gR 12 30 x0 h6).bind fun v29 =>
  (ldI v29 x1 h6).bind fun v30 =>
  some (v30, h6)] (some ((-1 : Int32), h6)))
  else none

noncomputable def mX12_andOf (x0 : Int32) (x1 : Int32) : Option Int32 :=
  if x0 = 0 then
  (some (0 : Int32))
  else (if x1 = 0 then
  (some (0 : Int32))
  else (if x0 = (1 : Int32) then
  (if x1 = (1 : Int32) then
  (some (1 : Int32))
  else (some (2 : Int32)))
  else (some (2 : Int32))))

noncomputable def mX12_turned (x0 : Int32) : Option Int32 :=
  if x0 = (2 : Int32) then
  (some (2 : Int32))
  else (some ((1 : Int32) - x0))

noncomputable def mX12_seen_b312 (x0 : Nat) (x1 : Int32) (x2 : Int32) (x3 : Int32) (x4 : Int32) (h : Hp) : Option ((Int32 × Int32 × Hp) ⊕ (Int32 × Hp)) :=
  some (.inl (x3, (x4 + (1 : Int32)), h))
noncomputable def mX12_seen_b311 (x0 : Nat) (x1 : Int32) (x2 : Int32) (x3 : Int32) (x4 : Int32) (t0 : Nat) (t1 : Int32) (t2 : Int32) (h : Hp) : Option ((Int32 × Int32 × Hp) ⊕ (Int32 × Hp)) :=
  (stI t0 t1 t2 h).bind fun h24 =>
  mX12_seen_b312 x0 x1 x2 x3 x4 h24
noncomputable def mX12_seen_b244 (x0 : Nat) (x1 : Int32) (x2 : Int32) (x3 : Int32) (x4 : Int32) (t0 : Nat) (t1 : Int32) (t2 : Int32) (h : Hp) : Option ((Int32 × Int32 × Hp) ⊕ (Int32 × Hp)) :=
  (stI t0 t1 t2 h).bind fun h28 =>
  mX12_seen_b312 x0 x1 x2 (x3 + (1 : Int32)) x4 h28
noncomputable def mX12_seen_b198 (x0 : Nat) (x1 : Int32) (x2 : Int32) (x3 : Int32) (x4 : Int32) (x6 : Int32) (x7 : Int32) (x9 : Int32) (t0 : Int32) (t1 : Int32) (h : Hp) : Option ((Int32 × Int32 × Int32 × Int32) ⊕ ((Int32 × Int32 × Hp) ⊕ (Int32 × Hp))) :=
  some (.inl (x3, x7, (t0 + t1), (x9 + (1 : Int32))))
noncomputable def mX12_seen_b178 (x0 : Nat) (x1 : Int32) (x2 : Int32) (x3 : Int32) (x4 : Int32) (x6 : Int32) (x8 : Int32) (x9 : Int32) (t0 : Int32) (t1 : Int32) (h : Hp) : Option ((Int32 × Int32 × Int32 × Int32) ⊕ ((Int32 × Int32 × Hp) ⊕ (Int32 × Hp))) :=
  (gR 12 23 x0 h).bind fun v31 =>
  (ldI v31 x3 h).bind fun v32 =>
  if v32 = (2 : Int32) then
  (mX12_seen_b198 x0 x1 x2 x3 x4 x6 (t0 + t1) x9 x8 (1 : Int32) h)
  else (mX12_seen_b198 x0 x1 x2 x3 x4 x6 (t0 + t1) x9 x8 (0 : Int32) h)
noncomputable def mX12_seen_l148f (x0 : Nat) (x1 : Int32) (x2 : Int32) (x4 : Int32) (x6 : Int32) (h : Hp) (x3 : Int32) (x7 : Int32) (x8 : Int32) (x9 : Int32) : Option ((Int32 × Int32 × Int32 × Int32) ⊕ ((Int32 × Int32 × Hp) ⊕ (Int32 × Hp))) :=
  (nz (10 : Int32)).bind fun _ =>
  if x9 < (x6 - x6 / (10 : Int32) * (10 : Int32)) then
  ((gR 12 23 x0 h).bind fun v29 =>
  (ldI v29 (x3 + (-1 : Int32)) h).bind fun v30 =>
  if v30 = (1 : Int32) then
  (mX12_seen_b178 x0 x1 x2 (x3 + (-1 : Int32)) x4 x6 x8 x9 x7 (1 : Int32) h)
  else (mX12_seen_b178 x0 x1 x2 (x3 + (-1 : Int32)) x4 x6 x8 x9 x7 (0 : Int32) h))
  else (xt ((gR 12 23 x0 h).bind fun v27 =>
  (nz (10 : Int32)).bind fun _ =>
  if x7 < (x6 / (10 : Int32)) then
  ((nz (10 : Int32)).bind fun _ =>
  if (x7 + x8) < (x6 / (10 : Int32)) then
  (mX12_seen_b244 x0 x1 x2 x3 x4 v27 x3 (0 : Int32) h)
  else (mX12_seen_b244 x0 x1 x2 x3 x4 v27 x3 (2 : Int32) h))
  else (mX12_seen_b244 x0 x1 x2 x3 x4 v27 x3 (1 : Int32) h)))
noncomputable def mX12_seen_l148 (x0 : Nat) (x1 : Int32) (x2 : Int32) (x3 : Int32) (x4 : Int32) (x6 : Int32) (x7 : Int32) (x8 : Int32) (x9 : Int32) (h : Hp) : Option ((Int32 × Int32 × Hp) ⊕ (Int32 × Hp)) :=
  lp (fun s : (Int32 × Int32 × Int32 × Int32) => mX12_seen_l148f x0 x1 x2 x4 x6 h s.1 s.2.1 s.2.2.1 s.2.2.2) (x3, x7, x8, x9)
noncomputable def mX12_seen_b98 (x0 : Nat) (x1 : Int32) (x2 : Int32) (x3 : Int32) (x4 : Int32) (t0 : Nat) (t1 : Int32) (t2 : Int32) (h : Hp) : Option ((Int32 × Int32 × Hp) ⊕ (Int32 × Hp)) :=
  (stI t0 t1 t2 h).bind fun h46 =>
  mX12_seen_b312 x0 x1 x2 (x3 + (1 : Int32)) x4 h46
noncomputable def mX12_seen_l13f (x0 : Nat) (x1 : Int32) (x2 : Int32) (x3 : Int32) (x4 : Int32) (h : Hp) : Option ((Int32 × Int32 × Hp) ⊕ (Int32 × Hp)) :=
  (gR 12 0 x0 h).bind fun v3 =>
  (ldI v3 ((117 : Int32) + x1) h).bind fun v4 =>
  if x4 < v4 then
  ((gR 12 0 x0 h).bind fun v7 =>
  (ldI v7 ((150 : Int32) + x4) h).bind fun v8 =>
  (nz (100 : Int32)).bind fun _ =>
  (gR 12 0 x0 h).bind fun v9 =>
  (ldI v9 ((150 : Int32) + x4) h).bind fun v10 =>
  (nz (100 : Int32)).bind fun _ =>
  if (v8 / (100 : Int32)) = 0 then
  ((gR 12 23 x0 h).bind fun v39 =>
  (mX12_its x0 x2 (4 : Int32) h).bind fun v40 =>
  (mX12_has v40 (v10 - v10 / (100 : Int32) * (100 : Int32))).bind fun v42 =>
  if v42 = 0 then
  (mX12_seen_b98 x0 x1 x2 x3 x4 v39 x3 (2 : Int32) h)
  else ((mX12_its x0 x2 (5 : Int32) h).bind fun v44 =>
  mX12_seen_b98 x0 x1 x2 x3 x4 v39 x3 ((v44 >>> ((v10 - v10 / (100 : Int32) * (100 : Int32)) &&& 31)) &&& (1 : Int32)) h))
  else (if (v8 / (100 : Int32)) = (1 : Int32) then
  ((gR 12 23 x0 h).bind fun v33 =>
  (gR 12 23 x0 h).bind fun v34 =>
  (ldI v34 (x3 - (1 : Int32)) h).bind fun v35 =>
  (mX12_turned v35).bind fun v36 =>
  (stI v33 (x3 - (1 : Int32)) v36 h).bind fun h38 =>
  mX12_seen_b312 x0 x1 x2 x3 x4 h38)
  else (if (v8 / (100 : Int32)) = (4 : Int32) then
  (mX12_seen_l148 x0 x1 x2 x3 x4 (v10 - v10 / (100 : Int32) * (100 : Int32)) (0 : Int32) (0 : Int32) (0 : Int32) h)
  else ((gR 12 23 x0 h).bind fun v11 =>
  (ldI v11 ((x3 + (-1 : Int32)) - (1 : Int32)) h).bind fun v12 =>
  (gR 12 23 x0 h).bind fun v13 =>
  (ldI v13 (x3 + (-1 : Int32)) h).bind fun v14 =>
  (gR 12 23 x0 h).bind fun v15 =>
  if (v8 / (100 : Int32)) = (2 : Int32) then
  ((mX12_andOf v12 v14).bind fun v25 =>
  mX12_seen_b311 x0 x1 x2 (x3 + (-1 : Int32)) x4 v15 ((x3 + (-1 : Int32)) - (1 : Int32)) v25 h)
  else ((mX12_turned v12).bind fun v16 =>
  (mX12_turned v14).bind fun v18 =>
  (mX12_andOf v16 v18).bind fun v20 =>
  (mX12_turned v20).bind fun v22 =>
  mX12_seen_b311 x0 x1 x2 (x3 + (-1 : Int32)) x4 v15 ((x3 + (-1 : Int32)) - (1 : Int32)) v22 h)))))
  else (xt ((gR 12 23 x0 h).bind fun v5 =>
  (ldI v5 (0 : Int32) h).bind fun v6 =>
  some (v6, h)))
noncomputable def mX12_seen_l13 (x0 : Nat) (x1 : Int32) (x2 : Int32) (x3 : Int32) (x4 : Int32) (h : Hp) : Option (Int32 × Hp) :=
  lp (fun s : (Int32 × Int32 × Hp) => mX12_seen_l13f x0 x1 x2 s.1 s.2.1 s.2.2) (x3, x4, h)
noncomputable def mX12_seen (x0 : Nat) (x1 : Int32) (x2 : Int32) (h : Hp) : Option (Int32 × Hp) :=
  if (hpS h x0).1 = 13 then
  (gR 12 0 x0 h).bind fun v1 =>
  (ldI v1 ((84 : Int32) + x1) h).bind fun v2 =>
  mX12_seen_l13 x0 x1 x2 (0 : Int32) v2 h
  else none

noncomputable def mX12_tellsOf (x0 : Nat) (x1 : Int32) (x2 : Int32) (x3 : Int32) (h : Hp) : Option (Int32 × Hp) :=
  if (hpS h x0).1 = 13 then
  if x3 = 0 then
  (b2 (mX12_seen x0 x1 x2 h) fun v17 h18 =>
  some (v17, h18))
  else (if x3 = (1 : Int32) then
  ((gR 12 28 x0 h).bind fun v7 =>
  (mX12_its x0 x2 (4 : Int32) h).bind fun v8 =>
  (mX12_its x0 x2 (5 : Int32) h).bind fun v10 =>
  (mX12_laysAgreed x0 v7 v8 v10 h).bind fun h13 =>
  (gR 12 28 x0 h13).bind fun v14 =>
  (mX12_isSure x0 v14 x1 h13).bind fun v15 =>
  if v15 = 0 then
  (some ((0 : Int32), h13))
  else (some ((1 : Int32), h13)))
  else ((gR 12 27 x0 h).bind fun v1 =>
  (mX12_holdsIn x0 v1 x1 h).bind fun v2 =>
  if v2 = 0 then
  (some ((0 : Int32), h))
  else ((gR 12 27 x0 h).bind fun v4 =>
  (mX12_many v4 h).bind fun v5 =>
  if v2 = v5 then
  (some ((1 : Int32), h))
  else (some ((2 : Int32), h)))))
  else none

noncomputable def mX12_element (x0 : Nat) (x1 : Int32) (x2 : Int32) (x3 : Int32) (h : Hp) : Option (Int32 × Hp) :=
  if (hpS h x0).1 = 13 then
  (mX12_isCount x0 x1 h).bind fun v1 =>
  if v1 = 0 then
  (some ((-1 : Int32), h))
  else ((mX12_needs x0 x1 h).bind fun v3 =>
  (mX12_in x2 (0 : Int32) (v3 - (1 : Int32))).bind fun v5 =>
  if v5 = 0 then
  (some ((-1 : Int32), h))
  else ((mX12_in x3 (0 : Int32) (2 : Int32)).bind fun v7 =>
  if v7 = 0 then
  (some ((-1 : Int32), h))
  else ((mX12_need x0 x1 x2 h).bind fun v9 =>
  b2 (mX12_tellsOf x0 v9 x1 x3 h) fun v11 h12 =>
  some (v11, h12))))
  else none

noncomputable def mX12_bar (x0 : Nat) (x1 : Int32) (x2 : Int32) (x3 : Int32) (h : Hp) : Option (Int32 × Hp) :=
  if (hpS h x0).1 = 13 then
  (mX12_isCount x0 x1 h).bind fun v1 =>
  if v1 = 0 then
  (some ((-1 : Int32), h))
  else ((mX12_bars x0 x1 h).bind fun v3 =>
  (mX12_in x2 (0 : Int32) (v3 - (1 : Int32))).bind fun v5 =>
  if v5 = 0 then
  (some ((-1 : Int32), h))
  else ((mX12_in x3 (0 : Int32) (2 : Int32)).bind fun v7 =>
  if v7 = 0 then
  (some ((-1 : Int32), h))
  else ((mX12_barOf x0 x1 x2 h).bind fun v9 =>
  b2 (mX12_tellsOf x0 v9 x1 x3 h) fun v11 h12 =>
  some (v11, h12))))
  else none

noncomputable def mX12_keepsAct_l52f (x0 : Nat) (x1 : Int32) (h : Hp) : Option ((Int32 × Hp) ⊕ Hp) :=
  if x1 < (83 : Int32) then
  ((gR 12 5 x0 h).bind fun v4 =>
  (gI 12 8 x0 h).bind fun v5 =>
  (gR 12 4 x0 h).bind fun v6 =>
  (ldI v6 x1 h).bind fun v7 =>
  (stI v4 (((83 : Int32) * v5) + x1) v7 h).bind fun h8 =>
  some (.inl ((x1 + (1 : Int32)), h8)))
  else (xt ((gI 12 8 x0 h).bind fun v2 =>
  (sI 12 8 x0 (v2 + (1 : Int32)) h).bind fun h3 =>
  some h3))
noncomputable def mX12_keepsAct_l52 (x0 : Nat) (x1 : Int32) (h : Hp) : Option Hp :=
  lp (fun s : (Int32 × Hp) => mX12_keepsAct_l52f x0 s.1 s.2) (x1, h)
noncomputable def mX12_keepsAct_b50 (x0 : Nat) (h : Hp) : Option Hp :=
  mX12_keepsAct_l52 x0 (0 : Int32) h
noncomputable def mX12_keepsAct_l12f (x0 : Nat) (x1 : Int32) (h : Hp) : Option ((Int32 × Hp) ⊕ Hp) :=
  if x1 < (1328 : Int32) then
  ((gR 12 5 x0 h).bind fun v11 =>
  (gR 12 5 x0 h).bind fun v12 =>
  (ldI v12 x1 h).bind fun v13 =>
  (stI v11 (x1 - (83 : Int32)) v13 h).bind fun h14 =>
  some (.inl ((x1 + (1 : Int32)), h14)))
  else (xt ((gI 12 8 x0 h).bind fun v9 =>
  (sI 12 8 x0 (v9 - (1 : Int32)) h).bind fun h10 =>
  mX12_keepsAct_b50 x0 h10))
noncomputable def mX12_keepsAct_l12 (x0 : Nat) (x1 : Int32) (h : Hp) : Option Hp :=
  lp (fun s : (Int32 × Hp) => mX12_keepsAct_l12f x0 s.1 s.2) (x1, h)
noncomputable def mX12_keepsAct (x0 : Nat) (h : Hp) : Option Hp :=
  if (hpS h x0).1 = 13 then
  (gI 12 8 x0 h).bind fun v1 =>
  if v1 = (16 : Int32) then
  (mX12_keepsAct_l12 x0 (83 : Int32) h)
  else (mX12_keepsAct_b50 x0 h)
  else none

noncomputable def mX12_answered_b31 (x0 : Nat) (x2 : Int32) (t0 : Int32) (t1 : Int32) (h : Hp) : Option ((Int32 × Int32) ⊕ Int32) :=
  some (.inl ((t0 + t1), (x2 + (1 : Int32))))
noncomputable def mX12_answered_l4f (x0 : Nat) (h : Hp) (x1 : Int32) (x2 : Int32) : Option ((Int32 × Int32) ⊕ Int32) :=
  (gR 12 0 x0 h).bind fun v1 =>
  (ldI v1 (1 : Int32) h).bind fun v2 =>
  if x2 < v2 then
  ((gR 12 4 x0 h).bind fun v3 =>
  (ldI v3 ((0 : Int32) + x2) h).bind fun v4 =>
  if v4 = 0 then
  (mX12_answered_b31 x0 x2 x1 (0 : Int32) h)
  else (mX12_answered_b31 x0 x2 x1 (1 : Int32) h))
  else (xt (some x1))
noncomputable def mX12_answered_l4 (x0 : Nat) (x1 : Int32) (x2 : Int32) (h : Hp) : Option Int32 :=
  lp (fun s : (Int32 × Int32) => mX12_answered_l4f x0 h s.1 s.2) (x1, x2)
noncomputable def mX12_answered (x0 : Nat) (h : Hp) : Option Int32 :=
  if (hpS h x0).1 = 13 then
  mX12_answered_l4 x0 (0 : Int32) (0 : Int32) h
  else none

noncomputable def mX12_isSomeBy_b28 (x0 : Nat) (x1 : Int32) (x2 : Int32) (x3 : Int32) (h : Hp) : Option (Int32 ⊕ Int32) :=
  some (.inl (x3 + (1 : Int32)))
noncomputable def mX12_isSomeBy_l2f (x0 : Nat) (x1 : Int32) (x2 : Int32) (h : Hp) (x3 : Int32) : Option (Int32 ⊕ Int32) :=
  if x3 < (256 : Int32) then
  ((mX12_isLeft x0 x3 h).bind fun v1 =>
  if v1 = 0 then
  (mX12_isSomeBy_b28 x0 x1 x2 x3 h)
  else (if ((x3 >>> (x1 &&& 31)) &&& (1 : Int32)) = x2 then
  (xt (some (1 : Int32)))
  else (mX12_isSomeBy_b28 x0 x1 x2 x3 h)))
  else (xt (some (0 : Int32)))
noncomputable def mX12_isSomeBy_l2 (x0 : Nat) (x1 : Int32) (x2 : Int32) (x3 : Int32) (h : Hp) : Option Int32 :=
  lp (fun s : Int32 => mX12_isSomeBy_l2f x0 x1 x2 h s) x3
noncomputable def mX12_isSomeBy (x0 : Nat) (x1 : Int32) (x2 : Int32) (h : Hp) : Option Int32 :=
  if (hpS h x0).1 = 13 then
  mX12_isSomeBy_l2 x0 x1 x2 (0 : Int32) h
  else none

noncomputable def mX12_makes (x0 : Nat) (x1 : Int32) (x2 : Int32) (x3 : Int32) (h : Hp) : Option Hp :=
  if (hpS h x0).1 = 13 then
  (gR 12 4 x0 h).bind fun v1 =>
  (stI v1 ((0 : Int32) + x1) x2 h).bind fun h2 =>
  (gR 12 4 x0 h2).bind fun v3 =>
  (stI v3 ((8 : Int32) + x1) x3 h2).bind fun h4 =>
  (mX12_laysKnown x0 h4).bind fun h6 =>
  some h6
  else none

noncomputable def mX12_answer_b104 (x0 : Nat) (t0 : Nat) (t1 : Int32) (t2 : Int32) (t3 : Int32) (h : Hp) : Option (Int32 × Hp) :=
  (mX12_makes t0 t1 t2 t3 h).bind fun h12 =>
  (mX12_answered x0 h12).bind fun v13 =>
  some (v13, h12)
noncomputable def mX12_answer_b94 (x0 : Nat) (x2 : Int32) (t0 : Nat) (t1 : Int32) (t2 : Int32) (h : Hp) : Option (Int32 × Hp) :=
  if x2 = (1 : Int32) then
  (mX12_answer_b104 x0 t0 t1 t2 (1 : Int32) h)
  else (mX12_answer_b104 x0 t0 t1 t2 (0 : Int32) h)
noncomputable def mX12_answer_b78 (x0 : Nat) (x1 : Int32) (x2 : Int32) (h : Hp) : Option (Int32 × Hp) :=
  (mX12_keepsAct x0 h).bind fun h10 =>
  if x2 < (2 : Int32) then
  (mX12_answer_b94 x0 x2 x0 x1 (1 : Int32) h10)
  else (mX12_answer_b94 x0 x2 x0 x1 x2 h10)
noncomputable def mX12_answer_b61 (x0 : Nat) (x1 : Int32) (x2 : Int32) (h : Hp) : Option (Int32 × Hp) :=
  if x2 < (2 : Int32) then
  ((mX12_isSomeBy x0 x1 x2 h).bind fun v15 =>
  if v15 = 0 then
  (some ((-4 : Int32), h))
  else (mX12_answer_b78 x0 x1 x2 h))
  else (mX12_answer_b78 x0 x1 x2 h)
noncomputable def mX12_answer (x0 : Nat) (x1 : Int32) (x2 : Int32) (h : Hp) : Option (Int32 × Hp) :=
  if (hpS h x0).1 = 13 then
  (mX12_isFact x0 x1 h).bind fun v1 =>
  if v1 = 0 then
  (some ((-1 : Int32), h))
  else ((mX12_in x2 (0 : Int32) (3 : Int32)).bind fun v3 =>
  if v3 = 0 then
  (some ((-1 : Int32), h))
  else ((gR 12 4 x0 h).bind fun v5 =>
  (ldI v5 (16 : Int32) h).bind fun v6 =>
  if v6 = (1 : Int32) then
  (some ((-2 : Int32), h))
  else ((mX12_isKnown x0 x1 h).bind fun v7 =>
  if v7 = 0 then
  (if (1 : Int32) < x2 then
  ((gR 12 4 x0 h).bind fun v17 =>
  (ldI v17 ((0 : Int32) + x1) h).bind fun v18 =>
  if v18 = x2 then
  (some ((-3 : Int32), h))
  else (mX12_answer_b61 x0 x1 x2 h))
  else (mX12_answer_b61 x0 x1 x2 h))
  else (some ((-3 : Int32), h)))))
  else none

noncomputable def mX12_withdraw (x0 : Nat) (x1 : Int32) (h : Hp) : Option (Int32 × Hp) :=
  if (hpS h x0).1 = 13 then
  (mX12_isFact x0 x1 h).bind fun v1 =>
  if v1 = 0 then
  (some ((-1 : Int32), h))
  else ((gR 12 4 x0 h).bind fun v3 =>
  (ldI v3 (16 : Int32) h).bind fun v4 =>
  if v4 = (1 : Int32) then
  (some ((-2 : Int32), h))
  else ((gR 12 4 x0 h).bind fun v5 =>
  (ldI v5 ((0 : Int32) + x1) h).bind fun v6 =>
  if v6 = (1 : Int32) then
  ((mX12_keepsAct x0 h).bind fun h8 =>
  (mX12_makes x0 x1 (0 : Int32) (0 : Int32) h8).bind fun h10 =>
  (mX12_answered x0 h10).bind fun v11 =>
  some (v11, h10))
  else (some ((-3 : Int32), h))))
  else none

noncomputable def mX12_firstSayer_b38 (x0 : Nat) (x1 : Int32) (x2 : Int32) (h : Hp) : Option (Int32 ⊕ Int32) :=
  some (.inl (x2 + (1 : Int32)))
noncomputable def mX12_firstSayer_l2f (x0 : Nat) (x1 : Int32) (h : Hp) (x2 : Int32) : Option (Int32 ⊕ Int32) :=
  (gR 12 4 x0 h).bind fun v1 =>
  (ldI v1 (18 : Int32) h).bind fun v2 =>
  if x2 < v2 then
  ((mX12_its x0 x2 (6 : Int32) h).bind fun v3 =>
  if v3 = 0 then
  ((mX12_its x0 x2 (4 : Int32) h).bind fun v5 =>
  (mX12_has v5 x1).bind fun v7 =>
  if v7 = 0 then
  (mX12_firstSayer_b38 x0 x1 x2 h)
  else (xt (some x2)))
  else (mX12_firstSayer_b38 x0 x1 x2 h))
  else (xt (some (-1 : Int32)))
noncomputable def mX12_firstSayer_l2 (x0 : Nat) (x1 : Int32) (x2 : Int32) (h : Hp) : Option Int32 :=
  lp (fun s : Int32 => mX12_firstSayer_l2f x0 x1 h s) x2
noncomputable def mX12_firstSayer (x0 : Nat) (x1 : Int32) (h : Hp) : Option Int32 :=
  if (hpS h x0).1 = 13 then
  mX12_firstSayer_l2 x0 x1 (0 : Int32) h
  else none

noncomputable def mX12_close_b117 (x0 : Nat) (x1 : Int32) (x2 : Int32) (h : Hp) : Option ((Int32 × Int32 × Hp) ⊕ (Int32 × Hp)) :=
  some (.inl (x1, (x2 + (1 : Int32)), h))
noncomputable def mX12_close_b115 (x0 : Nat) (x2 : Int32) (t0 : Int32) (t1 : Int32) (h : Hp) : Option ((Int32 × Int32 × Hp) ⊕ (Int32 × Hp)) :=
  mX12_close_b117 x0 (t0 + t1) x2 h
noncomputable def mX12_close_b101 (x0 : Nat) (x1 : Int32) (x2 : Int32) (x5 : Int32) (t0 : Nat) (t1 : Int32) (t2 : Int32) (t3 : Int32) (h : Hp) : Option ((Int32 × Int32 × Hp) ⊕ (Int32 × Hp)) :=
  (mX12_makes t0 t1 t2 t3 h).bind fun h18 =>
  if x5 = 0 then
  (mX12_close_b115 x0 x2 x1 (0 : Int32) h18)
  else (mX12_close_b115 x0 x2 x1 (1 : Int32) h18)
noncomputable def mX12_close_b90 (x0 : Nat) (x1 : Int32) (x2 : Int32) (x4 : Int32) (x5 : Int32) (t0 : Nat) (t1 : Int32) (t2 : Int32) (h : Hp) : Option ((Int32 × Int32 × Hp) ⊕ (Int32 × Hp)) :=
  if x5 = 0 then
  (mX12_close_b101 x0 x1 x2 x5 t0 t1 t2 (0 : Int32) h)
  else (mX12_close_b101 x0 x1 x2 x5 t0 t1 t2 x4 h)
noncomputable def mX12_close_l22f (x0 : Nat) (x1 : Int32) (x2 : Int32) (h : Hp) : Option ((Int32 × Int32 × Hp) ⊕ (Int32 × Hp)) :=
  (gR 12 0 x0 h).bind fun v5 =>
  (ldI v5 (1 : Int32) h).bind fun v6 =>
  if x2 < v6 then
  ((mX12_firstSayer x0 x2 h).bind fun v9 =>
  (gR 12 4 x0 h).bind fun v11 =>
  (ldI v11 ((0 : Int32) + x2) h).bind fun v12 =>
  if v12 = 0 then
  (if v9 = (-1 : Int32) then
  (mX12_close_b117 x0 x1 x2 h)
  else ((mX12_its x0 v9 (5 : Int32) h).bind fun v13 =>
  (mX12_isSomeBy x0 x2 ((v13 >>> (x2 &&& 31)) &&& (1 : Int32)) h).bind fun v15 =>
  if v15 = 0 then
  (mX12_close_b90 x0 x1 x2 ((v13 >>> (x2 &&& 31)) &&& (1 : Int32)) v15 x0 x2 (3 : Int32) h)
  else (mX12_close_b90 x0 x1 x2 ((v13 >>> (x2 &&& 31)) &&& (1 : Int32)) v15 x0 x2 (1 : Int32) h)))
  else (mX12_close_b117 x0 x1 x2 h))
  else (xt ((gR 12 4 x0 h).bind fun v7 =>
  (stI v7 (16 : Int32) (1 : Int32) h).bind fun h8 =>
  some (x1, h8)))
noncomputable def mX12_close_l22 (x0 : Nat) (x1 : Int32) (x2 : Int32) (h : Hp) : Option (Int32 × Hp) :=
  lp (fun s : (Int32 × Int32 × Hp) => mX12_close_l22f x0 s.1 s.2.1 s.2.2) (x1, x2, h)
noncomputable def mX12_close (x0 : Nat) (h : Hp) : Option (Int32 × Hp) :=
  if (hpS h x0).1 = 13 then
  (gR 12 4 x0 h).bind fun v1 =>
  (ldI v1 (16 : Int32) h).bind fun v2 =>
  if v2 = (1 : Int32) then
  (some ((-2 : Int32), h))
  else ((mX12_keepsAct x0 h).bind fun h4 =>
  mX12_close_l22 x0 (0 : Int32) (0 : Int32) h4)
  else none

noncomputable def mX12_find_b70 (x0 : Nat) (t0 : Nat) (t1 : Int32) (t2 : Int32) (t3 : Int32) (h : Hp) : Option (Int32 × Hp) :=
  (mX12_makes t0 t1 t2 t3 h).bind fun h12 =>
  (gR 12 0 x0 h12).bind fun v13 =>
  (ldI v13 (1 : Int32) h12).bind fun v14 =>
  (mX12_knownFacts x0 h12).bind fun v15 =>
  (mX12_bits v15).bind fun v17 =>
  some ((v14 - v17), h12)
noncomputable def mX12_find_b45 (x0 : Nat) (x1 : Int32) (x2 : Int32) (t0 : Nat) (t1 : Int32) (t2 : Int32) (h : Hp) : Option (Int32 × Hp) :=
  (mX12_isSomeBy t0 t1 t2 h).bind fun v7 =>
  if v7 = 0 then
  (some ((-4 : Int32), h))
  else ((mX12_keepsAct x0 h).bind fun h10 =>
  if x2 = 0 then
  (mX12_find_b70 x0 x0 x1 (4 : Int32) (0 : Int32) h10)
  else (mX12_find_b70 x0 x0 x1 (4 : Int32) (1 : Int32) h10))
noncomputable def mX12_find (x0 : Nat) (x1 : Int32) (x2 : Int32) (h : Hp) : Option (Int32 × Hp) :=
  if (hpS h x0).1 = 13 then
  (mX12_isFact x0 x1 h).bind fun v1 =>
  if v1 = 0 then
  (some ((-1 : Int32), h))
  else ((gR 12 4 x0 h).bind fun v3 =>
  (ldI v3 (16 : Int32) h).bind fun v4 =>
  if v4 = 0 then
  (some ((-2 : Int32), h))
  else ((mX12_isKnown x0 x1 h).bind fun v5 =>
  if v5 = 0 then
  (if x2 = 0 then
  (mX12_find_b45 x0 x1 x2 x0 x1 (0 : Int32) h)
  else (mX12_find_b45 x0 x1 x2 x0 x1 (1 : Int32) h))
  else (some ((-3 : Int32), h))))
  else none

noncomputable def mX12_say_b171 (x0 : Nat) (x1 : Int32) (t0 : Nat) (t1 : Int32) (t2 : Int32) (t3 : Int32) (t4 : Int32) (h : Hp) : Option (Int32 × Hp) :=
  (mX12_puts t0 t1 t2 (t3 ||| t4) h).bind fun h24 =>
  (mX12_its x0 x1 (4 : Int32) h24).bind fun v25 =>
  (mX12_bits v25).bind fun v27 =>
  some (v27, h24)
noncomputable def mX12_say_b143 (x0 : Nat) (x1 : Int32) (x2 : Int32) (x3 : Int32) (x5 : Int32) (t0 : Nat) (t1 : Int32) (t2 : Int32) (t3 : Int32) (t4 : Int32) (h : Hp) : Option (Int32 × Hp) :=
  (mX12_puts t0 t1 t2 (t3 ||| t4) h).bind fun h20 =>
  (mX12_its x0 x1 (5 : Int32) h20).bind fun v21 =>
  if x3 = (1 : Int32) then
  (mX12_say_b171 x0 x1 x0 x1 (5 : Int32) (v21 &&& x5) ((1 : Int32) <<< (x2 &&& 31)) h20)
  else (mX12_say_b171 x0 x1 x0 x1 (5 : Int32) (v21 &&& x5) (0 : Int32) h20)
noncomputable def mX12_say_b108 (x0 : Nat) (x1 : Int32) (x2 : Int32) (x3 : Int32) (h : Hp) : Option (Int32 × Hp) :=
  (mX12_keepsAct x0 h).bind fun h16 =>
  (mX12_its x0 x1 (4 : Int32) h16).bind fun v17 =>
  if x3 < (2 : Int32) then
  (mX12_say_b143 x0 x1 x2 x3 (((1 : Int32) <<< (x2 &&& 31)) ^^^ (-1 : Int32)) x0 x1 (4 : Int32) (v17 &&& (((1 : Int32) <<< (x2 &&& 31)) ^^^ (-1 : Int32))) ((1 : Int32) <<< (x2 &&& 31)) h16)
  else (mX12_say_b143 x0 x1 x2 x3 (((1 : Int32) <<< (x2 &&& 31)) ^^^ (-1 : Int32)) x0 x1 (4 : Int32) (v17 &&& (((1 : Int32) <<< (x2 &&& 31)) ^^^ (-1 : Int32))) (0 : Int32) h16)
noncomputable def mX12_say_b68 (x0 : Nat) (x1 : Int32) (x2 : Int32) (x3 : Int32) (t0 : Int32) (h : Hp) : Option (Int32 × Hp) :=
  if t0 = x3 then
  (some ((-3 : Int32), h))
  else (if x3 < (2 : Int32) then
  ((mX12_isKnown x0 x2 h).bind fun v29 =>
  if v29 = 0 then
  (mX12_say_b108 x0 x1 x2 x3 h)
  else ((gR 12 4 x0 h).bind fun v31 =>
  (ldI v31 ((8 : Int32) + x2) h).bind fun v32 =>
  if v32 = x3 then
  (mX12_say_b108 x0 x1 x2 x3 h)
  else (some ((-4 : Int32), h))))
  else (mX12_say_b108 x0 x1 x2 x3 h))
noncomputable def mX12_say (x0 : Nat) (x1 : Int32) (x2 : Int32) (x3 : Int32) (h : Hp) : Option (Int32 × Hp) :=
  if (hpS h x0).1 = 13 then
  (mX12_isCount x0 x1 h).bind fun v1 =>
  if v1 = 0 then
  (some ((-1 : Int32), h))
  else ((mX12_isFact x0 x2 h).bind fun v3 =>
  if v3 = 0 then
  (some ((-1 : Int32), h))
  else ((mX12_in x3 (0 : Int32) (2 : Int32)).bind fun v5 =>
  if v5 = 0 then
  (some ((-1 : Int32), h))
  else ((mX12_its x0 x1 (6 : Int32) h).bind fun v7 =>
  if v7 = (1 : Int32) then
  (some ((-2 : Int32), h))
  else ((mX12_its x0 x1 (4 : Int32) h).bind fun v9 =>
  (mX12_has v9 x2).bind fun v11 =>
  if v11 = 0 then
  (mX12_say_b68 x0 x1 x2 x3 (2 : Int32) h)
  else ((mX12_its x0 x1 (5 : Int32) h).bind fun v13 =>
  mX12_say_b68 x0 x1 x2 x3 ((v13 >>> (x2 &&& 31)) &&& (1 : Int32)) h)))))
  else none

noncomputable def mX12_add_l74f (x0 : Nat) (x1 : Int32) (x2 : Int32) (x3 : Int32) (x4 : Int32) (x5 : Int32) (h : Hp) : Option ((Int32 × Hp) ⊕ (Int32 × Hp)) :=
  if x5 < (8 : Int32) then
  ((mX12_puts x0 x4 x5 (0 : Int32) h).bind fun h31 =>
  some (.inl ((x5 + (1 : Int32)), h31)))
  else (xt ((mX12_its x0 x1 (0 : Int32) h).bind fun v16 =>
  (mX12_puts x0 x4 (0 : Int32) v16 h).bind fun h19 =>
  (gR 12 4 x0 h19).bind fun v20 =>
  (ldI v20 (17 : Int32) h19).bind fun v21 =>
  (mX12_puts x0 x4 (1 : Int32) v21 h19).bind fun h23 =>
  (mX12_puts x0 x4 (2 : Int32) x2 h23).bind fun h25 =>
  (mX12_puts x0 x4 (3 : Int32) x3 h25).bind fun h27 =>
  (mX12_puts x0 x4 (7 : Int32) x1 h27).bind fun h29 =>
  some (x4, h29)))
noncomputable def mX12_add_l74 (x0 : Nat) (x1 : Int32) (x2 : Int32) (x3 : Int32) (x4 : Int32) (x5 : Int32) (h : Hp) : Option (Int32 × Hp) :=
  lp (fun s : (Int32 × Hp) => mX12_add_l74f x0 x1 x2 x3 x4 s.1 s.2) (x5, h)
noncomputable def mX12_add (x0 : Nat) (x1 : Int32) (x2 : Int32) (x3 : Int32) (h : Hp) : Option (Int32 × Hp) :=
  if (hpS h x0).1 = 13 then
  (mX12_isCount x0 x1 h).bind fun v1 =>
  if v1 = 0 then
  (some ((-1 : Int32), h))
  else ((mX12_in x2 (0 : Int32) (999 : Int32)).bind fun v3 =>
  if v3 = 0 then
  (some ((-1 : Int32), h))
  else ((mX12_in x3 (0 : Int32) (999 : Int32)).bind fun v5 =>
  if v5 = 0 then
  (some ((-1 : Int32), h))
  else ((gR 12 4 x0 h).bind fun v7 =>
  (ldI v7 (18 : Int32) h).bind fun v8 =>
  if v8 = (8 : Int32) then
  (some ((-2 : Int32), h))
  else ((mX12_keepsAct x0 h).bind fun h10 =>
  (gR 12 4 x0 h10).bind fun v11 =>
  (ldI v11 (18 : Int32) h10).bind fun v12 =>
  (gR 12 4 x0 h10).bind fun v13 =>
  (ldI v13 (18 : Int32) h10).bind fun v14 =>
  (stI v13 (18 : Int32) (v14 + (1 : Int32)) h10).bind fun h15 =>
  mX12_add_l74 x0 x1 x2 x3 v12 (0 : Int32) h15))))
  else none

noncomputable def mX12_strike_l40f (x0 : Nat) (h : Hp) (x2 : Int32) (x3 : Int32) : Option ((Int32 × Int32) ⊕ (Int32 × Hp)) :=
  (gR 12 4 x0 h).bind fun v9 =>
  (ldI v9 (18 : Int32) h).bind fun v10 =>
  if x3 < v10 then
  ((mX12_its x0 x3 (6 : Int32) h).bind fun v11 =>
  some (.inl ((x2 + ((1 : Int32) - v11)), (x3 + (1 : Int32)))))
  else (xt (some (x2, h)))
noncomputable def mX12_strike_l40 (x0 : Nat) (x2 : Int32) (x3 : Int32) (h : Hp) : Option (Int32 × Hp) :=
  lp (fun s : (Int32 × Int32) => mX12_strike_l40f x0 h s.1 s.2) (x2, x3)
noncomputable def mX12_strike (x0 : Nat) (x1 : Int32) (h : Hp) : Option (Int32 × Hp) :=
  if (hpS h x0).1 = 13 then
  (mX12_isCount x0 x1 h).bind fun v1 =>
  if v1 = 0 then
  (some ((-1 : Int32), h))
  else ((mX12_its x0 x1 (6 : Int32) h).bind fun v3 =>
  if v3 = (1 : Int32) then
  (some ((-2 : Int32), h))
  else ((mX12_keepsAct x0 h).bind fun h6 =>
  (mX12_puts x0 x1 (6 : Int32) (1 : Int32) h6).bind fun h8 =>
  mX12_strike_l40 x0 (0 : Int32) (0 : Int32) h8))
  else none

noncomputable def mX12_days (x0 : Nat) (x1 : Int32) (h : Hp) : Option (Int32 × Hp) :=
  if (hpS h x0).1 = 13 then
  (mX12_in x1 (1 : Int32) (999 : Int32)).bind fun v1 =>
  if v1 = 0 then
  (some ((-1 : Int32), h))
  else ((gR 12 4 x0 h).bind fun v3 =>
  (ldI v3 (17 : Int32) h).bind fun v4 =>
  if (9999 : Int32) < (v4 + x1) then
  (some ((-2 : Int32), h))
  else ((mX12_keepsAct x0 h).bind fun h6 =>
  (gR 12 4 x0 h6).bind fun v7 =>
  (ldI v7 (17 : Int32) h6).bind fun v8 =>
  (stI v7 (17 : Int32) (v8 + x1) h6).bind fun h9 =>
  (gR 12 4 x0 h9).bind fun v10 =>
  (ldI v10 (17 : Int32) h9).bind fun v11 =>
  some (v11, h9)))
  else none

noncomputable def mX12_undo_l21f (x0 : Nat) (x1 : Int32) (h : Hp) : Option ((Int32 × Hp) ⊕ (Int32 × Hp)) :=
  if x1 < (83 : Int32) then
  ((gR 12 4 x0 h).bind fun v7 =>
  (gR 12 5 x0 h).bind fun v8 =>
  (gI 12 8 x0 h).bind fun v9 =>
  (ldI v8 (((83 : Int32) * v9) + x1) h).bind fun v10 =>
  (stI v7 x1 v10 h).bind fun h11 =>
  some (.inl ((x1 + (1 : Int32)), h11)))
  else (xt ((mX12_laysKnown x0 h).bind fun h5 =>
  (gI 12 8 x0 h5).bind fun v6 =>
  some (v6, h5)))
noncomputable def mX12_undo_l21 (x0 : Nat) (x1 : Int32) (h : Hp) : Option (Int32 × Hp) :=
  lp (fun s : (Int32 × Hp) => mX12_undo_l21f x0 s.1 s.2) (x1, h)
noncomputable def mX12_undo (x0 : Nat) (h : Hp) : Option (Int32 × Hp) :=
  if (hpS h x0).1 = 13 then
  (gI 12 8 x0 h).bind fun v1 =>
  if v1 = 0 then
  (some ((-1 : Int32), h))
  else ((gI 12 8 x0 h).bind fun v2 =>
  (sI 12 8 x0 (v2 - (1 : Int32)) h).bind fun h3 =>
  mX12_undo_l21 x0 (0 : Int32) h3)
  else none

noncomputable def mX12_keep_l20f (x0 : Nat) (x1 : Int32) (x2 : Int32) (h : Hp) : Option ((Int32 × Hp) ⊕ (Int32 × Hp)) :=
  if x2 < (83 : Int32) then
  ((gR 12 6 x0 h).bind fun v5 =>
  (gR 12 4 x0 h).bind fun v6 =>
  (ldI v6 x2 h).bind fun v7 =>
  (stI v5 (((83 : Int32) * x1) + x2) v7 h).bind fun h8 =>
  some (.inl ((x2 + (1 : Int32)), h8)))
  else (xt (some ((1 : Int32), h)))
noncomputable def mX12_keep_l20 (x0 : Nat) (x1 : Int32) (x2 : Int32) (h : Hp) : Option (Int32 × Hp) :=
  lp (fun s : (Int32 × Hp) => mX12_keep_l20f x0 x1 s.1 s.2) (x2, h)
noncomputable def mX12_keep (x0 : Nat) (x1 : Int32) (h : Hp) : Option (Int32 × Hp) :=
  if (hpS h x0).1 = 13 then
  (mX12_in x1 (0 : Int32) (1 : Int32)).bind fun v1 =>
  if v1 = 0 then
  (some ((0 : Int32), h))
  else ((gR 12 7 x0 h).bind fun v3 =>
  (stZ v3 x1 (1 : Int32) h).bind fun h4 =>
  mX12_keep_l20 x0 x1 (0 : Int32) h4)
  else none

noncomputable def mX12_again_l26f (x0 : Nat) (x1 : Int32) (x2 : Int32) (h : Hp) : Option ((Int32 × Hp) ⊕ (Int32 × Hp)) :=
  if x2 < (83 : Int32) then
  ((gR 12 4 x0 h).bind fun v9 =>
  (gR 12 6 x0 h).bind fun v10 =>
  (ldI v10 (((83 : Int32) * x1) + x2) h).bind fun v11 =>
  (stI v9 x2 v11 h).bind fun h12 =>
  some (.inl ((x2 + (1 : Int32)), h12)))
  else (xt ((mX12_laysKnown x0 h).bind fun h8 =>
  some ((1 : Int32), h8)))
noncomputable def mX12_again_l26 (x0 : Nat) (x1 : Int32) (x2 : Int32) (h : Hp) : Option (Int32 × Hp) :=
  lp (fun s : (Int32 × Hp) => mX12_again_l26f x0 x1 s.1 s.2) (x2, h)
noncomputable def mX12_again (x0 : Nat) (x1 : Int32) (h : Hp) : Option (Int32 × Hp) :=
  if (hpS h x0).1 = 13 then
  (mX12_in x1 (0 : Int32) (1 : Int32)).bind fun v1 =>
  if v1 = 0 then
  (some ((0 : Int32), h))
  else ((gR 12 7 x0 h).bind fun v3 =>
  (ldZ v3 x1 h).bind fun v4 =>
  if v4 = 0 then
  (some ((0 : Int32), h))
  else ((mX12_keepsAct x0 h).bind fun h6 =>
  mX12_again_l26 x0 x1 (0 : Int32) h6))
  else none

noncomputable def mX12_worlds (x0 : Nat) (x1 : Int32) (h : Hp) : Option Int32 :=
  if (hpS h x0).1 = 13 then
  if x1 = 0 then
  ((gR 12 24 x0 h).bind fun v4 =>
  (mX12_many v4 h).bind fun v5 =>
  some v5)
  else (if x1 = (1 : Int32) then
  ((gR 12 27 x0 h).bind fun v1 =>
  (mX12_many v1 h).bind fun v2 =>
  some v2)
  else (some (-1 : Int32)))
  else none

noncomputable def mX12_clash (x0 : Nat) (x1 : Int32) (x2 : Int32) (h : Hp) : Option (Int32 × Hp) :=
  if (hpS h x0).1 = 13 then
  (mX12_isCount x0 x1 h).bind fun v1 =>
  if v1 = 0 then
  (some ((-1 : Int32), h))
  else ((mX12_isCount x0 x2 h).bind fun v3 =>
  if v3 = 0 then
  (some ((-1 : Int32), h))
  else ((mX12_its x0 x1 (4 : Int32) h).bind fun v5 =>
  (mX12_its x0 x2 (4 : Int32) h).bind fun v7 =>
  (gR 12 28 x0 h).bind fun v9 =>
  (mX12_its x0 x1 (4 : Int32) h).bind fun v10 =>
  (mX12_its x0 x2 (4 : Int32) h).bind fun v12 =>
  (mX12_its x0 x1 (5 : Int32) h).bind fun v14 =>
  (mX12_its x0 x2 (5 : Int32) h).bind fun v16 =>
  (mX12_laysAgreed x0 v9 (v10 ||| v12) (v14 ||| v16) h).bind fun h19 =>
  (mX12_its x0 x1 (5 : Int32) h19).bind fun v20 =>
  (mX12_its x0 x2 (5 : Int32) h19).bind fun v22 =>
  if (v20 &&& (v5 &&& v7)) = (v22 &&& (v5 &&& v7)) then
  ((gR 12 28 x0 h19).bind fun v24 =>
  (mX12_many v24 h19).bind fun v25 =>
  if v25 = 0 then
  (some ((1 : Int32), h19))
  else (some ((0 : Int32), h19)))
  else (some ((1 : Int32), h19))))
  else none

noncomputable def mX12_implied_b55 (x0 : Nat) (x1 : Int32) (x2 : Int32) (x3 : Int32) (h : Hp) : Option (Int32 ⊕ Int32) :=
  some (.inl (x3 + (1 : Int32)))
noncomputable def mX12_implied_l20f (x0 : Nat) (x1 : Int32) (x2 : Int32) (h : Hp) (x3 : Int32) : Option (Int32 ⊕ Int32) :=
  if x3 < (256 : Int32) then
  ((mX12_isLeft x0 x3 h).bind fun v5 =>
  if v5 = 0 then
  (mX12_implied_b55 x0 x1 x2 x3 h)
  else ((mX12_isWon x0 x1 x3 h).bind fun v7 =>
  if v7 = 0 then
  (mX12_implied_b55 x0 x1 x2 x3 h)
  else ((mX12_isWon x0 x2 x3 h).bind fun v9 =>
  if v9 = 0 then
  (xt (some (0 : Int32)))
  else (mX12_implied_b55 x0 x1 x2 x3 h))))
  else (xt (some (1 : Int32)))
noncomputable def mX12_implied_l20 (x0 : Nat) (x1 : Int32) (x2 : Int32) (x3 : Int32) (h : Hp) : Option Int32 :=
  lp (fun s : Int32 => mX12_implied_l20f x0 x1 x2 h s) x3
noncomputable def mX12_implied (x0 : Nat) (x1 : Int32) (x2 : Int32) (h : Hp) : Option Int32 :=
  if (hpS h x0).1 = 13 then
  (mX12_isCount x0 x1 h).bind fun v1 =>
  if v1 = 0 then
  (some (-1 : Int32))
  else ((mX12_isCount x0 x2 h).bind fun v3 =>
  if v3 = 0 then
  (some (-1 : Int32))
  else (mX12_implied_l20 x0 x1 x2 (0 : Int32) h))
  else none

noncomputable def mX12_lacksSo_b133 (x0 : Nat) (x1 : Int32) (x2 : Int32) (x3 : Int32) (x4 : Int32) (h : Hp) : Option ((Int32 × Hp) ⊕ (Int32 × Hp)) :=
  some (.inl ((x4 + (1 : Int32)), h))
noncomputable def mX12_lacksSo_b127 (x0 : Nat) (x1 : Int32) (x2 : Int32) (x3 : Int32) (x4 : Int32) (x5 : Int32) (h : Hp) : Option ((Int32 × Hp) ⊕ ((Int32 × Hp) ⊕ (Int32 × Hp))) :=
  some (.inl ((x5 + (1 : Int32)), h))
noncomputable def mX12_lacksSo_b85 (x0 : Nat) (x1 : Int32) (x2 : Int32) (x3 : Int32) (x4 : Int32) (x5 : Int32) (t0 : Int32) (h : Hp) : Option ((Int32 × Hp) ⊕ ((Int32 × Hp) ⊕ (Int32 × Hp))) :=
  if t0 = 0 then
  (mX12_lacksSo_b127 x0 x1 x2 x3 x4 x5 h)
  else ((mX12_its x0 x1 (5 : Int32) h).bind fun v7 =>
  b2 (mX12_failsBy x0 x1 (x3 ||| x4) (v7 ||| x5) h) fun v9 h10 =>
  if v9 = 0 then
  (xt (xt ((sI 12 31 x0 x4 h10).bind fun h11 =>
  (sI 12 32 x0 x5 h11).bind fun h12 =>
  some ((1 : Int32), h12))))
  else (mX12_lacksSo_b127 x0 x1 x2 x3 x4 x5 h10))
noncomputable def mX12_lacksSo_b84 (x0 : Nat) (x1 : Int32) (x2 : Int32) (x3 : Int32) (x4 : Int32) (x5 : Int32) (h : Hp) : Option ((Int32 × Hp) ⊕ ((Int32 × Hp) ⊕ (Int32 × Hp))) :=
  mX12_lacksSo_b85 x0 x1 x2 x3 x4 x5 (0 : Int32) h
noncomputable def mX12_lacksSo_l45f (x0 : Nat) (x1 : Int32) (x2 : Int32) (x3 : Int32) (x4 : Int32) (x5 : Int32) (h : Hp) : Option ((Int32 × Hp) ⊕ ((Int32 × Hp) ⊕ (Int32 × Hp))) :=
  if x4 < x5 then
  (xt (mX12_lacksSo_b133 x0 x1 x2 x3 x4 h))
  else (if (x5 &&& (x4 ^^^ (-1 : Int32))) = 0 then
  ((mX12_knownSo x0 h).bind fun v13 =>
  (mX12_knownFacts x0 h).bind fun v15 =>
  if (((x5 ^^^ v13) &&& x4) &&& v15) = 0 then
  (mX12_lacksSo_b85 x0 x1 x2 x3 x4 x5 (1 : Int32) h)
  else (mX12_lacksSo_b84 x0 x1 x2 x3 x4 x5 h))
  else (mX12_lacksSo_b84 x0 x1 x2 x3 x4 x5 h))
noncomputable def mX12_lacksSo_l45 (x0 : Nat) (x1 : Int32) (x2 : Int32) (x3 : Int32) (x4 : Int32) (x5 : Int32) (h : Hp) : Option ((Int32 × Hp) ⊕ (Int32 × Hp)) :=
  lp (fun s : (Int32 × Hp) => mX12_lacksSo_l45f x0 x1 x2 x3 x4 s.1 s.2) (x5, h)
noncomputable def mX12_lacksSo_l10f (x0 : Nat) (x1 : Int32) (x2 : Int32) (x3 : Int32) (x4 : Int32) (h : Hp) : Option ((Int32 × Hp) ⊕ (Int32 × Hp)) :=
  (gR 12 0 x0 h).bind fun v3 =>
  (ldI v3 (1 : Int32) h).bind fun v4 =>
  if x4 < ((1 : Int32) <<< (v4 &&& 31)) then
  ((mX12_bits x4).bind fun v5 =>
  if v5 = x2 then
  (if (x4 &&& x3) = 0 then
  (mX12_lacksSo_l45 x0 x1 x2 x3 x4 (0 : Int32) h)
  else (mX12_lacksSo_b133 x0 x1 x2 x3 x4 h))
  else (mX12_lacksSo_b133 x0 x1 x2 x3 x4 h))
  else (xt (some ((0 : Int32), h)))
noncomputable def mX12_lacksSo_l10 (x0 : Nat) (x1 : Int32) (x2 : Int32) (x3 : Int32) (x4 : Int32) (h : Hp) : Option (Int32 × Hp) :=
  lp (fun s : (Int32 × Hp) => mX12_lacksSo_l10f x0 x1 x2 x3 s.1 s.2) (x4, h)
noncomputable def mX12_lacksSo (x0 : Nat) (x1 : Int32) (x2 : Int32) (h : Hp) : Option (Int32 × Hp) :=
  if (hpS h x0).1 = 13 then
  (mX12_its x0 x1 (4 : Int32) h).bind fun v1 =>
  mX12_lacksSo_l10 x0 x1 x2 v1 (0 : Int32) h
  else none

noncomputable def mX12_lacks_b50 (x0 : Nat) (x2 : Int32) (x3 : Int32) (h : Hp) : Option (Int32 × Hp) :=
  (gR 12 0 x0 h).bind fun v9 =>
  (ldI v9 (1 : Int32) h).bind fun v10 =>
  if v10 < x3 then
  (some ((-2 : Int32), h))
  else (if x2 = 0 then
  (some (x3, h))
  else (if x2 = (1 : Int32) then
  ((gI 12 31 x0 h).bind fun v12 =>
  some (v12, h))
  else ((gI 12 32 x0 h).bind fun v11 =>
  some (v11, h))))
noncomputable def mX12_lacks_l25f (x0 : Nat) (x1 : Int32) (x2 : Int32) (x3 : Int32) (h : Hp) : Option ((Int32 × Hp) ⊕ (Int32 × Hp)) :=
  (gR 12 0 x0 h).bind fun v7 =>
  (ldI v7 (1 : Int32) h).bind fun v8 =>
  if v8 < x3 then
  (xt (mX12_lacks_b50 x0 x2 x3 h))
  else (b2 (mX12_lacksSo x0 x1 x3 h) fun v13 h14 =>
  if v13 = 0 then
  (some (.inl ((x3 + (1 : Int32)), h14)))
  else (xt (mX12_lacks_b50 x0 x2 x3 h14)))
noncomputable def mX12_lacks_l25 (x0 : Nat) (x1 : Int32) (x2 : Int32) (x3 : Int32) (h : Hp) : Option (Int32 × Hp) :=
  lp (fun s : (Int32 × Hp) => mX12_lacks_l25f x0 x1 x2 s.1 s.2) (x3, h)
noncomputable def mX12_lacks (x0 : Nat) (x1 : Int32) (x2 : Int32) (h : Hp) : Option (Int32 × Hp) :=
  if (hpS h x0).1 = 13 then
  (mX12_isCount x0 x1 h).bind fun v1 =>
  if v1 = 0 then
  (some ((-1 : Int32), h))
  else ((mX12_in x2 (0 : Int32) (2 : Int32)).bind fun v3 =>
  if v3 = 0 then
  (some ((-1 : Int32), h))
  else ((mX12_laysBacks x0 h).bind fun h6 =>
  mX12_lacks_l25 x0 x1 x2 (0 : Int32) h6))
  else none

noncomputable def mX12_grown_l32f (x2 : Int32) (h : Hp) (x3 : Int64) (x5 : Int32) : Option ((Int64 × Int32) ⊕ Int32) :=
  if x5 < x2 then
  ((nzL (10 : Int64)).bind fun _ =>
  if 0 < (lg_cmp (x3 + (x3 / (10 : Int64))) (2147483647 : Int64)) then
  (xt (some (-2 : Int32)))
  else (some (.inl ((x3 + (x3 / (10 : Int64))), (x5 + (1 : Int32))))))
  else (xt (some x3.toInt32))
noncomputable def mX12_grown_l32 (x2 : Int32) (x3 : Int64) (x5 : Int32) (h : Hp) : Option Int32 :=
  lp (fun s : (Int64 × Int32) => mX12_grown_l32f x2 h s.1 s.2) (x3, x5)
noncomputable def mX12_grown (x0 : Nat) (x1 : Int32) (x2 : Int32) (h : Hp) : Option Int32 :=
  if (hpS h x0).1 = 13 then
  (mX12_isCount x0 x1 h).bind fun v1 =>
  if v1 = 0 then
  (some (-1 : Int32))
  else ((mX12_in x2 (0 : Int32) (400 : Int32)).bind fun v3 =>
  if v3 = 0 then
  (some (-1 : Int32))
  else ((mX12_its x0 x1 (2 : Int32) h).bind fun v5 =>
  mX12_grown_l32 x2 v5.toInt64 (0 : Int32) h))
  else none

noncomputable def mX12_tells (x0 : Int32) (x1 : Int32) (h : Hp) : Option Int32 :=
  (ldI 3 x1 h).bind fun v1 =>
  (nz v1).bind fun _ =>
  (nz (3 : Int32)).bind fun _ =>
  some ((x0 / v1) - (x0 / v1) / (3 : Int32) * (3 : Int32))

noncomputable def mX12_untold_l2f (x0 : Nat) (x1 : Int32) (h : Hp) (x3 : Int32) : Option (Int32 ⊕ Int32) :=
  (gR 12 0 x0 h).bind fun v1 =>
  (ldI v1 (1 : Int32) h).bind fun v2 =>
  if x3 < v2 then
  ((mX12_tells x1 x3 h).bind fun v3 =>
  if v3 = 0 then
  (xt (some x3))
  else (some (.inl (x3 + (1 : Int32)))))
  else (xt (some x3))
noncomputable def mX12_untold_l2 (x0 : Nat) (x1 : Int32) (x3 : Int32) (h : Hp) : Option Int32 :=
  lp (fun s : Int32 => mX12_untold_l2f x0 x1 h s) x3
noncomputable def mX12_untold (x0 : Nat) (x1 : Int32) (x2 : Int32) (h : Hp) : Option Int32 :=
  if (hpS h x0).1 = 13 then
  mX12_untold_l2 x0 x1 x2 h
  else none

noncomputable def mX12_laysWays_b194 (x0 : Nat) (x1 : Int32) (x2 : Int32) (h : Hp) : Option ((Int32 × Hp) ⊕ Hp) :=
  some (.inl ((x2 + (-1 : Int32)), h))
noncomputable def mX12_laysWays_b193 (x0 : Nat) (x1 : Int32) (x2 : Int32) (t0 : Nat) (t1 : Int32) (t2 : Int32) (h : Hp) : Option ((Int32 × Hp) ⊕ Hp) :=
  (stI t0 t1 t2 h).bind fun h15 =>
  mX12_laysWays_b194 x0 x1 x2 h15
noncomputable def mX12_laysWays_b192 (x0 : Nat) (x1 : Int32) (x2 : Int32) (t0 : Nat) (t1 : Int32) (h : Hp) : Option ((Int32 × Hp) ⊕ Hp) :=
  mX12_laysWays_b193 x0 x1 x2 t0 t1 (0 : Int32) h
noncomputable def mX12_laysWays_b163 (x0 : Nat) (x1 : Int32) (x2 : Int32) (x4 : Int32) (t0 : Nat) (t1 : Int32) (t2 : Int32) (h : Hp) : Option ((Int32 × Hp) ⊕ Hp) :=
  (stI t0 t1 t2 h).bind fun h11 =>
  (gR 12 34 x0 h11).bind fun v12 =>
  (mX12_isLeft x0 x4 h11).bind fun v13 =>
  if v13 = 0 then
  (mX12_laysWays_b192 x0 x1 x2 v12 x2 h11)
  else ((mX12_isWon x0 x1 x4 h11).bind fun v16 =>
  if v16 = 0 then
  (mX12_laysWays_b192 x0 x1 x2 v12 x2 h11)
  else (mX12_laysWays_b193 x0 x1 x2 v12 x2 (1 : Int32) h11))
noncomputable def mX12_laysWays_b135 (x0 : Nat) (x1 : Int32) (x2 : Int32) (x3 : Int32) (x5 : Int32) (t0 : Int32) (t1 : Int32) (h : Hp) : Option ((Int32 × Int32) ⊕ ((Int32 × Hp) ⊕ Hp)) :=
  some (.inl ((t0 ||| t1), (x5 + (1 : Int32))))
noncomputable def mX12_laysWays_l109f (x0 : Nat) (x1 : Int32) (x2 : Int32) (x3 : Int32) (h : Hp) (x4 : Int32) (x5 : Int32) : Option ((Int32 × Int32) ⊕ ((Int32 × Hp) ⊕ Hp)) :=
  if x5 < x3 then
  ((mX12_tells x2 x5 h).bind fun v18 =>
  if v18 = (2 : Int32) then
  (mX12_laysWays_b135 x0 x1 x2 x3 x5 x4 ((1 : Int32) <<< (x5 &&& 31)) h)
  else (mX12_laysWays_b135 x0 x1 x2 x3 x5 x4 (0 : Int32) h))
  else (xt ((gR 12 33 x0 h).bind fun v8 =>
  (mX12_isLeft x0 x4 h).bind fun v9 =>
  if v9 = 0 then
  (mX12_laysWays_b163 x0 x1 x2 x4 v8 x2 (0 : Int32) h)
  else (mX12_laysWays_b163 x0 x1 x2 x4 v8 x2 (1 : Int32) h)))
noncomputable def mX12_laysWays_l109 (x0 : Nat) (x1 : Int32) (x2 : Int32) (x3 : Int32) (x4 : Int32) (x5 : Int32) (h : Hp) : Option ((Int32 × Hp) ⊕ Hp) :=
  lp (fun s : (Int32 × Int32) => mX12_laysWays_l109f x0 x1 x2 x3 h s.1 s.2) (x4, x5)
noncomputable def mX12_laysWays_l13f (x0 : Nat) (x1 : Int32) (x2 : Int32) (h : Hp) : Option ((Int32 × Hp) ⊕ Hp) :=
  if x2 < 0 then
  (xt (some h))
  else ((mX12_untold x0 x2 (0 : Int32) h).bind fun v4 =>
  (gR 12 0 x0 h).bind fun v6 =>
  (ldI v6 (1 : Int32) h).bind fun v7 =>
  if v4 < v7 then
  ((gR 12 33 x0 h).bind fun v20 =>
  (gR 12 33 x0 h).bind fun v21 =>
  (ldI 3 v4 h).bind fun v22 =>
  (ldI v21 (x2 + v22) h).bind fun v23 =>
  (gR 12 33 x0 h).bind fun v24 =>
  (ldI 3 v4 h).bind fun v25 =>
  (ldI v24 (x2 + ((2 : Int32) * v25)) h).bind fun v26 =>
  (stI v20 x2 (v23 + v26) h).bind fun h27 =>
  (gR 12 34 x0 h27).bind fun v28 =>
  (gR 12 34 x0 h27).bind fun v29 =>
  (ldI 3 v4 h27).bind fun v30 =>
  (ldI v29 (x2 + v30) h27).bind fun v31 =>
  (gR 12 34 x0 h27).bind fun v32 =>
  (ldI 3 v4 h27).bind fun v33 =>
  (ldI v32 (x2 + ((2 : Int32) * v33)) h27).bind fun v34 =>
  (stI v28 x2 (v31 + v34) h27).bind fun h35 =>
  mX12_laysWays_b194 x0 x1 x2 h35)
  else (mX12_laysWays_l109 x0 x1 x2 v4 (0 : Int32) (0 : Int32) h))
noncomputable def mX12_laysWays_l13 (x0 : Nat) (x1 : Int32) (x2 : Int32) (h : Hp) : Option Hp :=
  lp (fun s : (Int32 × Hp) => mX12_laysWays_l13f x0 x1 s.1 s.2) (x2, h)
noncomputable def mX12_laysWays (x0 : Nat) (x1 : Int32) (h : Hp) : Option Hp :=
  if (hpS h x0).1 = 13 then
  (gR 12 0 x0 h).bind fun v1 =>
  (ldI v1 (1 : Int32) h).bind fun v2 =>
  (ldI 3 v2 h).bind fun v3 =>
  mX12_laysWays_l13 x0 x1 (v3 - (1 : Int32)) h
  else none

noncomputable def mX12_wayOf_b42 (x0 : Int32) (x1 : Int32) (x3 : Int32) (t0 : Int32) (t1 : Int32) (h : Hp) : Option ((Int32 × Int32) ⊕ Int32) :=
  some (.inl ((t0 + t1), (x3 + (1 : Int32))))
noncomputable def mX12_wayOf_b37 (x0 : Int32) (x1 : Int32) (x3 : Int32) (t0 : Int32) (t1 : Int32) (t2 : Int32) (h : Hp) : Option ((Int32 × Int32) ⊕ Int32) :=
  mX12_wayOf_b42 x0 x1 x3 t0 (t1 * t2) h
noncomputable def mX12_wayOf_l4f (x0 : Int32) (x1 : Int32) (h : Hp) (x2 : Int32) (x3 : Int32) : Option ((Int32 × Int32) ⊕ Int32) :=
  if x3 < (8 : Int32) then
  ((mX12_has x0 x3).bind fun v1 =>
  if v1 = 0 then
  (mX12_wayOf_b42 x0 x1 x3 x2 (0 : Int32) h)
  else ((ldI 3 x3 h).bind fun v3 =>
  (mX12_has x1 x3).bind fun v4 =>
  if v4 = 0 then
  (mX12_wayOf_b37 x0 x1 x3 x2 v3 (1 : Int32) h)
  else (mX12_wayOf_b37 x0 x1 x3 x2 v3 (2 : Int32) h)))
  else (xt (some x2))
noncomputable def mX12_wayOf_l4 (x0 : Int32) (x1 : Int32) (x2 : Int32) (x3 : Int32) (h : Hp) : Option Int32 :=
  lp (fun s : (Int32 × Int32) => mX12_wayOf_l4f x0 x1 h s.1 s.2) (x2, x3)
noncomputable def mX12_wayOf (x0 : Int32) (x1 : Int32) (h : Hp) : Option Int32 :=
  mX12_wayOf_l4 x0 x1 (0 : Int32) (0 : Int32) h

noncomputable def mX12_issues_b93 (x0 : Nat) (x1 : Int32) (x2 : Int32) (x3 : Int32) (h : Hp) : Option ((Int32 × Int32) ⊕ Int32) :=
  some (.inl (x2, (x3 + (1 : Int32))))
noncomputable def mX12_issues_b85 (x0 : Nat) (x1 : Int32) (x3 : Int32) (x4 : Int32) (t0 : Int32) (t1 : Int32) (h : Hp) : Option ((Int32 × Int32) ⊕ ((Int32 × Int32) ⊕ Int32)) :=
  some (.inl ((t0 ||| t1), (x4 + (1 : Int32))))
noncomputable def mX12_issues_b84 (x0 : Nat) (x1 : Int32) (x3 : Int32) (x4 : Int32) (t0 : Int32) (h : Hp) : Option ((Int32 × Int32) ⊕ ((Int32 × Int32) ⊕ Int32)) :=
  mX12_issues_b85 x0 x1 x3 x4 t0 (0 : Int32) h
noncomputable def mX12_issues_l24f (x0 : Nat) (x1 : Int32) (x3 : Int32) (h : Hp) (x2 : Int32) (x4 : Int32) : Option ((Int32 × Int32) ⊕ ((Int32 × Int32) ⊕ Int32)) :=
  (gR 12 0 x0 h).bind fun v3 =>
  (ldI v3 (1 : Int32) h).bind fun v4 =>
  if x4 < v4 then
  ((mX12_isLeft x0 x3 h).bind fun v5 =>
  if v5 = 0 then
  (xt (mX12_issues_b93 x0 x1 x2 x3 h))
  else ((mX12_isLeft x0 (x3 ^^^ ((1 : Int32) <<< (x4 &&& 31))) h).bind fun v7 =>
  if v7 = 0 then
  (mX12_issues_b84 x0 x1 x3 x4 x2 h)
  else ((mX12_isWon x0 x1 x3 h).bind fun v9 =>
  (mX12_isWon x0 x1 (x3 ^^^ ((1 : Int32) <<< (x4 &&& 31))) h).bind fun v11 =>
  if v9 = v11 then
  (mX12_issues_b84 x0 x1 x3 x4 x2 h)
  else (mX12_issues_b85 x0 x1 x3 x4 x2 ((1 : Int32) <<< (x4 &&& 31)) h))))
  else (xt (mX12_issues_b93 x0 x1 x2 x3 h))
noncomputable def mX12_issues_l24 (x0 : Nat) (x1 : Int32) (x2 : Int32) (x3 : Int32) (x4 : Int32) (h : Hp) : Option ((Int32 × Int32) ⊕ Int32) :=
  lp (fun s : (Int32 × Int32) => mX12_issues_l24f x0 x1 x3 h s.1 s.2) (x2, x4)
noncomputable def mX12_issues_l14f (x0 : Nat) (x1 : Int32) (h : Hp) (x2 : Int32) (x3 : Int32) : Option ((Int32 × Int32) ⊕ Int32) :=
  if x3 < (256 : Int32) then
  (mX12_issues_l24 x0 x1 x2 x3 (0 : Int32) h)
  else (xt (some x2))
noncomputable def mX12_issues_l14 (x0 : Nat) (x1 : Int32) (x2 : Int32) (x3 : Int32) (h : Hp) : Option Int32 :=
  lp (fun s : (Int32 × Int32) => mX12_issues_l14f x0 x1 h s.1 s.2) (x2, x3)
noncomputable def mX12_issues (x0 : Nat) (x1 : Int32) (h : Hp) : Option Int32 :=
  if (hpS h x0).1 = 13 then
  (mX12_isCount x0 x1 h).bind fun v1 =>
  if v1 = 0 then
  (some (-1 : Int32))
  else (mX12_issues_l14 x0 x1 (0 : Int32) (0 : Int32) h)
  else none

noncomputable def mX12_judged (x0 : Nat) (x1 : Int32) (h : Hp) : Option (Int32 × Hp) :=
  if (hpS h x0).1 = 13 then
  (mX12_isCount x0 x1 h).bind fun v1 =>
  if v1 = 0 then
  (some ((-1 : Int32), h))
  else ((mX12_laysWays x0 x1 h).bind fun h4 =>
  (gR 12 34 x0 h4).bind fun v5 =>
  (ldI v5 (0 : Int32) h4).bind fun v6 =>
  if v6 = 0 then
  (some ((0 : Int32), h4))
  else ((gR 12 34 x0 h4).bind fun v7 =>
  (ldI v7 (0 : Int32) h4).bind fun v8 =>
  (gR 12 33 x0 h4).bind fun v9 =>
  (ldI v9 (0 : Int32) h4).bind fun v10 =>
  if v8 = v10 then
  (some ((1 : Int32), h4))
  else (some ((2 : Int32), h4))))
  else none

noncomputable def mX12_triedBy_b48 (x0 : Nat) (x1 : Int32) (x2 : Int32) (x4 : Int32) (t0 : Int32) (h : Hp) : Option ((Int32 × Int32) ⊕ Int32) :=
  some (.inl (t0, (x4 + (1 : Int32))))
noncomputable def mX12_triedBy_l5f (x0 : Nat) (x1 : Int32) (x2 : Int32) (h : Hp) (x3 : Int32) (x4 : Int32) : Option ((Int32 × Int32) ⊕ Int32) :=
  if x4 < (3 : Int32) then
  ((ldI 3 x2 h).bind fun v1 =>
  (gR 12 33 x0 h).bind fun v2 =>
  (ldI v2 (x1 + (x4 * v1)) h).bind fun v3 =>
  if 0 < v3 then
  ((gR 12 35 x0 h).bind fun v4 =>
  (ldI v4 (x1 + (x4 * v1)) h).bind fun v5 =>
  mX12_triedBy_b48 x0 x1 x2 x4 (mmax x3 v5) h)
  else (mX12_triedBy_b48 x0 x1 x2 x4 x3 h))
  else (xt (some ((1 : Int32) + x3)))
noncomputable def mX12_triedBy_l5 (x0 : Nat) (x1 : Int32) (x2 : Int32) (x3 : Int32) (x4 : Int32) (h : Hp) : Option Int32 :=
  lp (fun s : (Int32 × Int32) => mX12_triedBy_l5f x0 x1 x2 h s.1 s.2) (x3, x4)
noncomputable def mX12_triedBy (x0 : Nat) (x1 : Int32) (x2 : Int32) (h : Hp) : Option Int32 :=
  if (hpS h x0).1 = 13 then
  mX12_triedBy_l5 x0 x1 x2 (0 : Int32) (1 : Int32) h
  else none

noncomputable def mX12_laysTrials_b129 (x0 : Nat) (x1 : Int32) (h : Hp) : Option ((Int32 × Hp) ⊕ Hp) :=
  some (.inl ((x1 + (-1 : Int32)), h))
noncomputable def mX12_laysTrials_b116 (x0 : Nat) (x1 : Int32) (x2 : Int32) (t0 : Nat) (t1 : Int32) (t2 : Int32) (h : Hp) : Option ((Int32 × Hp) ⊕ ((Int32 × Hp) ⊕ Hp)) :=
  (stI t0 t1 t2 h).bind fun h21 =>
  (mX12_untold x0 x1 (x2 + (1 : Int32)) h21).bind fun v22 =>
  some (.inl (v22, h21))
noncomputable def mX12_laysTrials_l60f (x0 : Nat) (x1 : Int32) (x2 : Int32) (h : Hp) : Option ((Int32 × Hp) ⊕ ((Int32 × Hp) ⊕ Hp)) :=
  (gR 12 0 x0 h).bind fun v10 =>
  (ldI v10 (1 : Int32) h).bind fun v11 =>
  if x2 < v11 then
  ((gR 12 35 x0 h).bind fun v12 =>
  (ldI v12 x1 h).bind fun v13 =>
  if 0 < v13 then
  ((gR 12 35 x0 h).bind fun v14 =>
  (mX12_isKnown x0 x2 h).bind fun v15 =>
  if v15 = 0 then
  ((gR 12 35 x0 h).bind fun v17 =>
  (ldI v17 x1 h).bind fun v18 =>
  (mX12_triedBy x0 x1 x2 h).bind fun v19 =>
  mX12_laysTrials_b116 x0 x1 x2 v14 x1 (mmin v18 v19) h)
  else ((gR 12 35 x0 h).bind fun v24 =>
  (ldI v24 x1 h).bind fun v25 =>
  mX12_laysTrials_b116 x0 x1 x2 v14 x1 v25 h))
  else (xt (mX12_laysTrials_b129 x0 x1 h)))
  else (xt (mX12_laysTrials_b129 x0 x1 h))
noncomputable def mX12_laysTrials_l60 (x0 : Nat) (x1 : Int32) (x2 : Int32) (h : Hp) : Option ((Int32 × Hp) ⊕ Hp) :=
  lp (fun s : (Int32 × Hp) => mX12_laysTrials_l60f x0 x1 s.1 s.2) (x2, h)
noncomputable def mX12_laysTrials_b52 (x0 : Nat) (x1 : Int32) (t0 : Nat) (t1 : Int32) (t2 : Int32) (h : Hp) : Option ((Int32 × Hp) ⊕ Hp) :=
  (stI t0 t1 t2 h).bind fun h7 =>
  (mX12_untold x0 x1 (0 : Int32) h7).bind fun v8 =>
  mX12_laysTrials_l60 x0 x1 v8 h7
noncomputable def mX12_laysTrials_b46 (x0 : Nat) (x1 : Int32) (t0 : Nat) (t1 : Int32) (h : Hp) : Option ((Int32 × Hp) ⊕ Hp) :=
  mX12_laysTrials_b52 x0 x1 t0 t1 (0 : Int32) h
noncomputable def mX12_laysTrials_l13f (x0 : Nat) (x1 : Int32) (h : Hp) : Option ((Int32 × Hp) ⊕ Hp) :=
  if x1 < 0 then
  (xt (some h))
  else ((gR 12 35 x0 h).bind fun v4 =>
  (gR 12 34 x0 h).bind fun v5 =>
  (ldI v5 x1 h).bind fun v6 =>
  if v6 = 0 then
  (mX12_laysTrials_b46 x0 x1 v4 x1 h)
  else ((gR 12 34 x0 h).bind fun v26 =>
  (ldI v26 x1 h).bind fun v27 =>
  (gR 12 33 x0 h).bind fun v28 =>
  (ldI v28 x1 h).bind fun v29 =>
  if v27 = v29 then
  (mX12_laysTrials_b46 x0 x1 v4 x1 h)
  else (mX12_laysTrials_b52 x0 x1 v4 x1 (9 : Int32) h)))
noncomputable def mX12_laysTrials_l13 (x0 : Nat) (x1 : Int32) (h : Hp) : Option Hp :=
  lp (fun s : (Int32 × Hp) => mX12_laysTrials_l13f x0 s.1 s.2) (x1, h)
noncomputable def mX12_laysTrials (x0 : Nat) (h : Hp) : Option Hp :=
  if (hpS h x0).1 = 13 then
  (gR 12 0 x0 h).bind fun v1 =>
  (ldI v1 (1 : Int32) h).bind fun v2 =>
  (ldI 3 v2 h).bind fun v3 =>
  mX12_laysTrials_l13 x0 (v3 - (1 : Int32)) h
  else none

noncomputable def mX12_tries_b76 (x0 : Nat) (x3 : Int32) (h : Hp) : Option (Int32 ⊕ (Int32 × Hp)) :=
  some (.inl (x3 + (1 : Int32)))
noncomputable def mX12_tries_l53f (x0 : Nat) (h : Hp) (x3 : Int32) : Option (Int32 ⊕ (Int32 × Hp)) :=
  (mX12_isKnown x0 x3 h).bind fun v11 =>
  if v11 = 0 then
  ((mX12_triedBy x0 (0 : Int32) x3 h).bind fun v13 =>
  (gR 12 35 x0 h).bind fun v15 =>
  (ldI v15 (0 : Int32) h).bind fun v16 =>
  if v13 = v16 then
  (xt (some (x3, h)))
  else (mX12_tries_b76 x0 x3 h))
  else (mX12_tries_b76 x0 x3 h)
noncomputable def mX12_tries_l53 (x0 : Nat) (x3 : Int32) (h : Hp) : Option (Int32 × Hp) :=
  lp (fun s : Int32 => mX12_tries_l53f x0 h s) x3
noncomputable def mX12_tries (x0 : Nat) (x1 : Int32) (x2 : Int32) (h : Hp) : Option (Int32 × Hp) :=
  if (hpS h x0).1 = 13 then
  (mX12_isCount x0 x1 h).bind fun v1 =>
  if v1 = 0 then
  (some ((-1 : Int32), h))
  else ((mX12_in x2 (0 : Int32) (1 : Int32)).bind fun v3 =>
  if v3 = 0 then
  (some ((-1 : Int32), h))
  else ((mX12_laysWays x0 x1 h).bind fun h6 =>
  (mX12_laysTrials x0 h6).bind fun h8 =>
  if x2 = 0 then
  ((gR 12 35 x0 h8).bind fun v17 =>
  (ldI v17 (0 : Int32) h8).bind fun v18 =>
  some (v18, h8))
  else ((gR 12 35 x0 h8).bind fun v9 =>
  (ldI v9 (0 : Int32) h8).bind fun v10 =>
  if v10 = 0 then
  (some ((-2 : Int32), h8))
  else (mX12_tries_l53 x0 (0 : Int32) h8))))
  else none

noncomputable def mX12_laysDuel_b254 (x0 : Nat) (x1 : Int32) (x2 : Int32) (h : Hp) : Option ((Int32 × Hp) ⊕ Hp) :=
  some (.inl ((x2 + (-1 : Int32)), h))
noncomputable def mX12_laysDuel_b253 (x0 : Nat) (x1 : Int32) (x2 : Int32) (t0 : Nat) (t1 : Int32) (t2 : Int32) (h : Hp) : Option ((Int32 × Hp) ⊕ Hp) :=
  (stI t0 t1 t2 h).bind fun h17 =>
  mX12_laysDuel_b254 x0 x1 x2 h17
noncomputable def mX12_laysDuel_b210 (x0 : Nat) (x1 : Int32) (x2 : Int32) (x4 : Int32) (x5 : Int32) (h : Hp) : Option ((Int32 × Hp) ⊕ ((Int32 × Hp) ⊕ Hp)) :=
  (mX12_untold x0 x2 (x5 + (1 : Int32)) h).bind fun v18 =>
  some (.inl (v18, h))
noncomputable def mX12_laysDuel_b204 (x0 : Nat) (x1 : Int32) (x2 : Int32) (x4 : Int32) (x5 : Int32) (x6 : Int32) (h : Hp) : Option ((Int32 × Hp) ⊕ ((Int32 × Hp) ⊕ ((Int32 × Hp) ⊕ Hp))) :=
  some (.inl ((x6 + (1 : Int32)), h))
noncomputable def mX12_laysDuel_b203 (x0 : Nat) (x1 : Int32) (x2 : Int32) (x4 : Int32) (x5 : Int32) (x6 : Int32) (t0 : Nat) (t1 : Int32) (t2 : Int32) (h : Hp) : Option ((Int32 × Hp) ⊕ ((Int32 × Hp) ⊕ ((Int32 × Hp) ⊕ Hp))) :=
  (stI t0 t1 t2 h).bind fun h32 =>
  mX12_laysDuel_b204 x0 x1 x2 x4 x5 x6 h32
noncomputable def mX12_laysDuel_l100f (x0 : Nat) (x1 : Int32) (x2 : Int32) (x4 : Int32) (x5 : Int32) (x6 : Int32) (h : Hp) : Option ((Int32 × Hp) ⊕ ((Int32 × Hp) ⊕ ((Int32 × Hp) ⊕ Hp))) :=
  if x6 < (3 : Int32) then
  ((mX12_isKnown x0 x5 h).bind fun v20 =>
  if v20 = 0 then
  ((ldI 3 x5 h).bind fun v22 =>
  (gR 12 33 x0 h).bind fun v23 =>
  (ldI v23 (x2 + (x6 * v22)) h).bind fun v24 =>
  if 0 < v24 then
  ((gR 12 35 x0 h).bind fun v25 =>
  (gR 12 35 x0 h).bind fun v26 =>
  (ldI v26 x2 h).bind fun v27 =>
  if v27 = (-1 : Int32) then
  ((gR 12 35 x0 h).bind fun v37 =>
  (ldI v37 (x2 + (x6 * v22)) h).bind fun v38 =>
  mX12_laysDuel_b203 x0 x1 x2 x4 x5 x6 v25 x2 v38 h)
  else (if x4 = 0 then
  ((gR 12 35 x0 h).bind fun v28 =>
  (ldI v28 x2 h).bind fun v29 =>
  (gR 12 35 x0 h).bind fun v30 =>
  (ldI v30 (x2 + (x6 * v22)) h).bind fun v31 =>
  mX12_laysDuel_b203 x0 x1 x2 x4 x5 x6 v25 x2 (mmin v29 v31) h)
  else ((gR 12 35 x0 h).bind fun v33 =>
  (ldI v33 x2 h).bind fun v34 =>
  (gR 12 35 x0 h).bind fun v35 =>
  (ldI v35 (x2 + (x6 * v22)) h).bind fun v36 =>
  mX12_laysDuel_b203 x0 x1 x2 x4 x5 x6 v25 x2 (mmax v34 v36) h)))
  else (mX12_laysDuel_b204 x0 x1 x2 x4 x5 x6 h))
  else (xt (mX12_laysDuel_b210 x0 x1 x2 x4 x5 h)))
  else (xt (mX12_laysDuel_b210 x0 x1 x2 x4 x5 h))
noncomputable def mX12_laysDuel_l100 (x0 : Nat) (x1 : Int32) (x2 : Int32) (x4 : Int32) (x5 : Int32) (x6 : Int32) (h : Hp) : Option ((Int32 × Hp) ⊕ ((Int32 × Hp) ⊕ Hp)) :=
  lp (fun s : (Int32 × Hp) => mX12_laysDuel_l100f x0 x1 x2 x4 x5 s.1 s.2) (x6, h)
noncomputable def mX12_laysDuel_l86f (x0 : Nat) (x1 : Int32) (x2 : Int32) (x4 : Int32) (x5 : Int32) (h : Hp) : Option ((Int32 × Hp) ⊕ ((Int32 × Hp) ⊕ Hp)) :=
  (gR 12 0 x0 h).bind fun v10 =>
  (ldI v10 (1 : Int32) h).bind fun v11 =>
  if x5 < v11 then
  (mX12_laysDuel_l100 x0 x1 x2 x4 x5 (1 : Int32) h)
  else (xt ((gR 12 35 x0 h).bind fun v12 =>
  (ldI v12 x2 h).bind fun v13 =>
  if v13 = (-1 : Int32) then
  ((gR 12 35 x0 h).bind fun v14 =>
  (gR 12 34 x0 h).bind fun v15 =>
  (ldI v15 x2 h).bind fun v16 =>
  if 0 < v16 then
  (mX12_laysDuel_b253 x0 x1 x2 v14 x2 (1 : Int32) h)
  else (mX12_laysDuel_b253 x0 x1 x2 v14 x2 (0 : Int32) h))
  else (mX12_laysDuel_b254 x0 x1 x2 h)))
noncomputable def mX12_laysDuel_l86 (x0 : Nat) (x1 : Int32) (x2 : Int32) (x4 : Int32) (x5 : Int32) (h : Hp) : Option ((Int32 × Hp) ⊕ Hp) :=
  lp (fun s : (Int32 × Hp) => mX12_laysDuel_l86f x0 x1 x2 x4 s.1 s.2) (x5, h)
noncomputable def mX12_laysDuel_b69 (x0 : Nat) (x1 : Int32) (x2 : Int32) (t0 : Int32) (h : Hp) : Option ((Int32 × Hp) ⊕ Hp) :=
  (gR 12 35 x0 h).bind fun v6 =>
  (stI v6 x2 (-1 : Int32) h).bind fun h7 =>
  (mX12_untold x0 x2 (0 : Int32) h7).bind fun v8 =>
  mX12_laysDuel_l86 x0 x1 x2 t0 v8 h7
noncomputable def mX12_laysDuel_b48 (x0 : Nat) (x1 : Int32) (x2 : Int32) (x4 : Int32) (t0 : Int32) (t1 : Int32) (h : Hp) : Option ((Int32 × Int32) ⊕ ((Int32 × Hp) ⊕ Hp)) :=
  some (.inl ((t0 + t1), (x4 + (1 : Int32))))
noncomputable def mX12_laysDuel_l22f (x0 : Nat) (x1 : Int32) (x2 : Int32) (h : Hp) (x3 : Int32) (x4 : Int32) : Option ((Int32 × Int32) ⊕ ((Int32 × Hp) ⊕ Hp)) :=
  (gR 12 0 x0 h).bind fun v4 =>
  (ldI v4 (1 : Int32) h).bind fun v5 =>
  if x4 < v5 then
  ((mX12_tells x2 x4 h).bind fun v39 =>
  if v39 = 0 then
  (mX12_laysDuel_b48 x0 x1 x2 x4 x3 (0 : Int32) h)
  else (mX12_laysDuel_b48 x0 x1 x2 x4 x3 (1 : Int32) h))
  else (xt ((nz (2 : Int32)).bind fun _ =>
  if ((x1 + x3) - (x1 + x3) / (2 : Int32) * (2 : Int32)) = 0 then
  (mX12_laysDuel_b69 x0 x1 x2 (1 : Int32) h)
  else (mX12_laysDuel_b69 x0 x1 x2 (0 : Int32) h)))
noncomputable def mX12_laysDuel_l22 (x0 : Nat) (x1 : Int32) (x2 : Int32) (x3 : Int32) (x4 : Int32) (h : Hp) : Option ((Int32 × Hp) ⊕ Hp) :=
  lp (fun s : (Int32 × Int32) => mX12_laysDuel_l22f x0 x1 x2 h s.1 s.2) (x3, x4)
noncomputable def mX12_laysDuel_l13f (x0 : Nat) (x1 : Int32) (x2 : Int32) (h : Hp) : Option ((Int32 × Hp) ⊕ Hp) :=
  if x2 < 0 then
  (xt (some h))
  else (mX12_laysDuel_l22 x0 x1 x2 (0 : Int32) (0 : Int32) h)
noncomputable def mX12_laysDuel_l13 (x0 : Nat) (x1 : Int32) (x2 : Int32) (h : Hp) : Option Hp :=
  lp (fun s : (Int32 × Hp) => mX12_laysDuel_l13f x0 x1 s.1 s.2) (x2, h)
noncomputable def mX12_laysDuel (x0 : Nat) (x1 : Int32) (h : Hp) : Option Hp :=
  if (hpS h x0).1 = 13 then
  (gR 12 0 x0 h).bind fun v1 =>
  (ldI v1 (1 : Int32) h).bind fun v2 =>
  (ldI 3 v2 h).bind fun v3 =>
  mX12_laysDuel_l13 x0 x1 (v3 - (1 : Int32)) h
  else none

noncomputable def mX12_duel (x0 : Nat) (x1 : Int32) (x2 : Int32) (h : Hp) : Option (Int32 × Hp) :=
  if (hpS h x0).1 = 13 then
  (mX12_isCount x0 x1 h).bind fun v1 =>
  if v1 = 0 then
  (some ((-1 : Int32), h))
  else ((mX12_in x2 (0 : Int32) (1 : Int32)).bind fun v3 =>
  if v3 = 0 then
  (some ((-1 : Int32), h))
  else ((mX12_laysWays x0 x1 h).bind fun h6 =>
  (mX12_laysDuel x0 x2 h6).bind fun h8 =>
  (gR 12 35 x0 h8).bind fun v9 =>
  (ldI v9 (0 : Int32) h8).bind fun v10 =>
  some (v10, h8)))
  else none

noncomputable def mX12_turn_b124 (x0 : Nat) (x2 : Int32) (x3 : Int32) (x4 : Int32) (h : Hp) : Option (Int32 ⊕ (Int32 × Hp)) :=
  some (.inl (x4 + (1 : Int32)))
noncomputable def mX12_turn_b118 (x0 : Nat) (x2 : Int32) (x3 : Int32) (x4 : Int32) (x5 : Int32) (h : Hp) : Option (Int32 ⊕ (Int32 ⊕ (Int32 × Hp))) :=
  some (.inl (x5 + (1 : Int32)))
noncomputable def mX12_turn_l55f (x0 : Nat) (x2 : Int32) (x3 : Int32) (x4 : Int32) (h : Hp) (x5 : Int32) : Option (Int32 ⊕ (Int32 ⊕ (Int32 × Hp))) :=
  if x5 < (2 : Int32) then
  ((mX12_isKnown x0 x4 h).bind fun v13 =>
  if v13 = 0 then
  ((ldI 3 x4 h).bind fun v15 =>
  (gR 12 33 x0 h).bind fun v16 =>
  (ldI v16 ((x5 + (1 : Int32)) * v15) h).bind fun v17 =>
  if 0 < v17 then
  ((gR 12 35 x0 h).bind fun v18 =>
  (ldI v18 ((x5 + (1 : Int32)) * v15) h).bind fun v19 =>
  if v19 = ((1 : Int32) - x2) then
  (xt (xt (if x3 = 0 then
  (some (x4, h))
  else (some (x5, h)))))
  else (mX12_turn_b118 x0 x2 x3 x4 x5 h))
  else (mX12_turn_b118 x0 x2 x3 x4 x5 h))
  else (xt (mX12_turn_b124 x0 x2 x3 x4 h)))
  else (xt (mX12_turn_b124 x0 x2 x3 x4 h))
noncomputable def mX12_turn_l55 (x0 : Nat) (x2 : Int32) (x3 : Int32) (x4 : Int32) (x5 : Int32) (h : Hp) : Option (Int32 ⊕ (Int32 × Hp)) :=
  lp (fun s : Int32 => mX12_turn_l55f x0 x2 x3 x4 h s) x5
noncomputable def mX12_turn_l41f (x0 : Nat) (x2 : Int32) (x3 : Int32) (h : Hp) (x4 : Int32) : Option (Int32 ⊕ (Int32 × Hp)) :=
  (gR 12 0 x0 h).bind fun v11 =>
  (ldI v11 (1 : Int32) h).bind fun v12 =>
  if x4 < v12 then
  (mX12_turn_l55 x0 x2 x3 x4 (0 : Int32) h)
  else (xt (some ((-2 : Int32), h)))
noncomputable def mX12_turn_l41 (x0 : Nat) (x2 : Int32) (x3 : Int32) (x4 : Int32) (h : Hp) : Option (Int32 × Hp) :=
  lp (fun s : Int32 => mX12_turn_l41f x0 x2 x3 h s) x4
noncomputable def mX12_turn (x0 : Nat) (x1 : Int32) (x2 : Int32) (x3 : Int32) (h : Hp) : Option (Int32 × Hp) :=
  if (hpS h x0).1 = 13 then
  (mX12_isCount x0 x1 h).bind fun v1 =>
  if v1 = 0 then
  (some ((-1 : Int32), h))
  else ((mX12_in x2 (0 : Int32) (1 : Int32)).bind fun v3 =>
  if v3 = 0 then
  (some ((-1 : Int32), h))
  else ((mX12_in x3 (0 : Int32) (1 : Int32)).bind fun v5 =>
  if v5 = 0 then
  (some ((-1 : Int32), h))
  else ((mX12_laysWays x0 x1 h).bind fun h8 =>
  (mX12_laysDuel x0 x2 h8).bind fun h10 =>
  mX12_turn_l41 x0 x2 x3 (0 : Int32) h10)))
  else none

noncomputable def mX12_isProved (x0 : Nat) (x1 : Int32) (x2 : Int32) (h : Hp) : Option Int32 :=
  if (hpS h x0).1 = 13 then
  if x2 = 0 then
  ((gR 12 34 x0 h).bind fun v1 =>
  (ldI v1 x1 h).bind fun v2 =>
  if v2 = 0 then
  (some (1 : Int32))
  else (some (0 : Int32)))
  else ((gR 12 34 x0 h).bind fun v3 =>
  (ldI v3 x1 h).bind fun v4 =>
  (gR 12 33 x0 h).bind fun v5 =>
  (ldI v5 x1 h).bind fun v6 =>
  if v4 = v6 then
  (some (1 : Int32))
  else (some (0 : Int32)))
  else none

noncomputable def mX12_isProof_b81 (x0 : Nat) (x1 : Int32) (x2 : Int32) (x3 : Int32) (x5 : Int32) (h : Hp) : Option (Int32 ⊕ Int32) :=
  some (.inl (x5 + (1 : Int32)))
noncomputable def mX12_isProof_l32f (x0 : Nat) (x1 : Int32) (x2 : Int32) (x3 : Int32) (h : Hp) (x5 : Int32) : Option (Int32 ⊕ Int32) :=
  (gR 12 0 x0 h).bind fun v7 =>
  (ldI v7 (1 : Int32) h).bind fun v8 =>
  if x5 < v8 then
  ((mX12_has x1 x5).bind fun v9 =>
  if v9 = 0 then
  (mX12_isProof_b81 x0 x1 x2 x3 x5 h)
  else ((mX12_wayOf (x1 &&& (((1 : Int32) <<< (x5 &&& 31)) ^^^ (-1 : Int32))) (x2 &&& (((1 : Int32) <<< (x5 &&& 31)) ^^^ (-1 : Int32))) h).bind fun v11 =>
  (mX12_isProved x0 v11 x3 h).bind fun v13 =>
  if v13 = 0 then
  (mX12_isProof_b81 x0 x1 x2 x3 x5 h)
  else (xt (some (0 : Int32)))))
  else (xt (some (1 : Int32)))
noncomputable def mX12_isProof_l32 (x0 : Nat) (x1 : Int32) (x2 : Int32) (x3 : Int32) (x5 : Int32) (h : Hp) : Option Int32 :=
  lp (fun s : Int32 => mX12_isProof_l32f x0 x1 x2 x3 h s) x5
noncomputable def mX12_isProof (x0 : Nat) (x1 : Int32) (x2 : Int32) (x3 : Int32) (h : Hp) : Option Int32 :=
  if (hpS h x0).1 = 13 then
  (mX12_wayOf x1 x2 h).bind fun v1 =>
  (gR 12 33 x0 h).bind fun v3 =>
  (ldI v3 v1 h).bind fun v4 =>
  if v4 = 0 then
  (some (0 : Int32))
  else ((mX12_isProved x0 v1 x3 h).bind fun v5 =>
  if v5 = 0 then
  (some (0 : Int32))
  else (mX12_isProof_l32 x0 x1 x2 x3 (0 : Int32) h))
  else none

noncomputable def mX12_findsProofs_b123 (x0 : Nat) (x2 : Int32) (x3 : Int32) (x4 : Int32) (x5 : Int32) (x6 : Int32) (h : Hp) : Option ((Int32 × Int32 × Hp) ⊕ ((Int32 × Int32 × Hp) ⊕ (Int32 × Hp))) :=
  some (.inl (x4, (x6 + (1 : Int32)), h))
noncomputable def mX12_findsProofs_b117 (x0 : Nat) (x2 : Int32) (x3 : Int32) (x4 : Int32) (x5 : Int32) (x6 : Int32) (x7 : Int32) (h : Hp) : Option ((Int32 × Int32 × Hp) ⊕ ((Int32 × Int32 × Hp) ⊕ ((Int32 × Int32 × Hp) ⊕ (Int32 × Hp)))) :=
  some (.inl (x4, (x7 + (1 : Int32)), h))
noncomputable def mX12_findsProofs_b114 (x0 : Nat) (x2 : Int32) (x3 : Int32) (x4 : Int32) (x5 : Int32) (x6 : Int32) (x7 : Int32) (h : Hp) : Option ((Int32 × Int32 × Hp) ⊕ ((Int32 × Int32 × Hp) ⊕ ((Int32 × Int32 × Hp) ⊕ (Int32 × Hp)))) :=
  mX12_findsProofs_b117 x0 x2 x3 (x4 + (1 : Int32)) x5 x6 x7 h
noncomputable def mX12_findsProofs_l64f (x0 : Nat) (x2 : Int32) (x3 : Int32) (x5 : Int32) (x6 : Int32) (x4 : Int32) (x7 : Int32) (h : Hp) : Option ((Int32 × Int32 × Hp) ⊕ ((Int32 × Int32 × Hp) ⊕ ((Int32 × Int32 × Hp) ⊕ (Int32 × Hp)))) :=
  if x6 < x7 then
  (xt (mX12_findsProofs_b123 x0 x2 x3 x4 x5 x6 h))
  else (if (x7 &&& (x6 ^^^ (-1 : Int32))) = 0 then
  ((mX12_isProof x0 x6 x7 x2 h).bind fun v11 =>
  if v11 = 0 then
  (mX12_findsProofs_b117 x0 x2 x3 x4 x5 x6 x7 h)
  else (if x4 = x3 then
  ((sI 12 31 x0 x6 h).bind fun h13 =>
  (sI 12 32 x0 x7 h13).bind fun h14 =>
  mX12_findsProofs_b114 x0 x2 x3 x4 x5 x6 x7 h14)
  else (mX12_findsProofs_b114 x0 x2 x3 x4 x5 x6 x7 h)))
  else (mX12_findsProofs_b117 x0 x2 x3 x4 x5 x6 x7 h))
noncomputable def mX12_findsProofs_l64 (x0 : Nat) (x2 : Int32) (x3 : Int32) (x4 : Int32) (x5 : Int32) (x6 : Int32) (x7 : Int32) (h : Hp) : Option ((Int32 × Int32 × Hp) ⊕ ((Int32 × Int32 × Hp) ⊕ (Int32 × Hp))) :=
  lp (fun s : (Int32 × Int32 × Hp) => mX12_findsProofs_l64f x0 x2 x3 x5 x6 s.1 s.2.1 s.2.2) (x4, x7, h)
noncomputable def mX12_findsProofs_l25f (x0 : Nat) (x2 : Int32) (x3 : Int32) (x5 : Int32) (x4 : Int32) (x6 : Int32) (h : Hp) : Option ((Int32 × Int32 × Hp) ⊕ ((Int32 × Int32 × Hp) ⊕ (Int32 × Hp))) :=
  (gR 12 0 x0 h).bind fun v5 =>
  (ldI v5 (1 : Int32) h).bind fun v6 =>
  if x6 < ((1 : Int32) <<< (v6 &&& 31)) then
  ((mX12_bits x6).bind fun v7 =>
  if v7 = x5 then
  ((mX12_knownFacts x0 h).bind fun v9 =>
  if (x6 &&& v9) = 0 then
  (mX12_findsProofs_l64 x0 x2 x3 x4 x5 x6 (0 : Int32) h)
  else (mX12_findsProofs_b123 x0 x2 x3 x4 x5 x6 h))
  else (mX12_findsProofs_b123 x0 x2 x3 x4 x5 x6 h))
  else (xt (some (.inl (x4, (x5 + (1 : Int32)), h))))
noncomputable def mX12_findsProofs_l25 (x0 : Nat) (x2 : Int32) (x3 : Int32) (x4 : Int32) (x5 : Int32) (x6 : Int32) (h : Hp) : Option ((Int32 × Int32 × Hp) ⊕ (Int32 × Hp)) :=
  lp (fun s : (Int32 × Int32 × Hp) => mX12_findsProofs_l25f x0 x2 x3 x5 s.1 s.2.1 s.2.2) (x4, x6, h)
noncomputable def mX12_findsProofs_l11f (x0 : Nat) (x2 : Int32) (x3 : Int32) (x4 : Int32) (x5 : Int32) (h : Hp) : Option ((Int32 × Int32 × Hp) ⊕ (Int32 × Hp)) :=
  (gR 12 0 x0 h).bind fun v3 =>
  (ldI v3 (1 : Int32) h).bind fun v4 =>
  if v4 < x5 then
  (xt (some (x4, h)))
  else (mX12_findsProofs_l25 x0 x2 x3 x4 x5 (0 : Int32) h)
noncomputable def mX12_findsProofs_l11 (x0 : Nat) (x2 : Int32) (x3 : Int32) (x4 : Int32) (x5 : Int32) (h : Hp) : Option (Int32 × Hp) :=
  lp (fun s : (Int32 × Int32 × Hp) => mX12_findsProofs_l11f x0 x2 x3 s.1 s.2.1 s.2.2) (x4, x5, h)
noncomputable def mX12_findsProofs (x0 : Nat) (x1 : Int32) (x2 : Int32) (x3 : Int32) (h : Hp) : Option (Int32 × Hp) :=
  if (hpS h x0).1 = 13 then
  (mX12_laysWays x0 x1 h).bind fun h2 =>
  mX12_findsProofs_l11 x0 x2 x3 (0 : Int32) (0 : Int32) h2
  else none

noncomputable def mX12_proofs (x0 : Nat) (x1 : Int32) (x2 : Int32) (h : Hp) : Option (Int32 × Hp) :=
  if (hpS h x0).1 = 13 then
  (mX12_isCount x0 x1 h).bind fun v1 =>
  if v1 = 0 then
  (some ((-1 : Int32), h))
  else (b2 (mX12_findsProofs x0 x1 x2 (-1 : Int32) h) fun v3 h4 =>
  some (v3, h4))
  else none

noncomputable def mX12_proof (x0 : Nat) (x1 : Int32) (x2 : Int32) (x3 : Int32) (x4 : Int32) (h : Hp) : Option (Int32 × Hp) :=
  if (hpS h x0).1 = 13 then
  (mX12_isCount x0 x1 h).bind fun v1 =>
  if v1 = 0 then
  (some ((-1 : Int32), h))
  else (if x3 < 0 then
  (some ((-1 : Int32), h))
  else ((mX12_in x4 (0 : Int32) (1 : Int32)).bind fun v3 =>
  if v3 = 0 then
  (some ((-1 : Int32), h))
  else (b2 (mX12_findsProofs x0 x1 x2 x3 h) fun v5 h6 =>
  if x3 < v5 then
  (if x4 = 0 then
  ((gI 12 31 x0 h6).bind fun v8 =>
  some (v8, h6))
  else ((gI 12 32 x0 h6).bind fun v7 =>
  some (v7, h6)))
  else (some ((-1 : Int32), h6)))))
  else none

noncomputable def mX12_tellsBy_l6f (x0 : Nat) (x1 : Int64) (x3 : Int64) (h : Hp) (x5 : Int64) (x7 : Int64) : Option ((Int64 × Int64) ⊕ Hp) :=
  if (lg_cmp x7 (0 : Int64)) = 0 then
  (xt ((nzL x5).bind fun _ =>
  (sL 12 36 x0 (x1 / x5) h).bind fun h1 =>
  (nzL x5).bind fun _ =>
  (sL 12 37 x0 (x3 / x5) h1).bind fun h2 =>
  some h2))
  else ((nzL x7).bind fun _ =>
  some (.inl (x7, (x5 - x5 / x7 * x7))))
noncomputable def mX12_tellsBy_l6 (x0 : Nat) (x1 : Int64) (x3 : Int64) (x5 : Int64) (x7 : Int64) (h : Hp) : Option Hp :=
  lp (fun s : (Int64 × Int64) => mX12_tellsBy_l6f x0 x1 x3 h s.1 s.2) (x5, x7)
noncomputable def mX12_tellsBy (x0 : Nat) (x1 : Int64) (x3 : Int64) (h : Hp) : Option Hp :=
  if (hpS h x0).1 = 13 then
  mX12_tellsBy_l6 x0 x1 x3 x3 x1 h
  else none

noncomputable def mX12_weight_b54 (x0 : Nat) (x1 : Int32) (x4 : Int32) (t0 : Int64) (t1 : Int64) (h : Hp) : Option ((Int64 × Int32) ⊕ Int64) :=
  some (.inl ((t0 * t1), (x4 + (1 : Int32))))
noncomputable def mX12_weight_l5f (x0 : Nat) (x1 : Int32) (h : Hp) (x2 : Int64) (x4 : Int32) : Option ((Int64 × Int32) ⊕ Int64) :=
  (gR 12 0 x0 h).bind fun v1 =>
  (ldI v1 (1 : Int32) h).bind fun v2 =>
  if x4 < v2 then
  ((mX12_has x1 x4).bind fun v3 =>
  if v3 = 0 then
  ((gR 12 0 x0 h).bind fun v5 =>
  (ldI v5 ((8 : Int32) + x4) h).bind fun v6 =>
  mX12_weight_b54 x0 x1 x4 x2 (((10 : Int32) - v6).toInt64) h)
  else ((gR 12 0 x0 h).bind fun v7 =>
  (ldI v7 ((8 : Int32) + x4) h).bind fun v8 =>
  mX12_weight_b54 x0 x1 x4 x2 v8.toInt64 h))
  else (xt (some x2))
noncomputable def mX12_weight_l5 (x0 : Nat) (x1 : Int32) (x2 : Int64) (x4 : Int32) (h : Hp) : Option Int64 :=
  lp (fun s : (Int64 × Int32) => mX12_weight_l5f x0 x1 h s.1 s.2) (x2, x4)
noncomputable def mX12_weight (x0 : Nat) (x1 : Int32) (h : Hp) : Option Int64 :=
  if (hpS h x0).1 = 13 then
  mX12_weight_l5 x0 x1 (1 : Int64) (0 : Int32) h
  else none

noncomputable def mX12_chance_b106 (t0 : Int64) (h : Hp) : Option (Int32 × Hp) :=
  some (t0.toInt32, h)
noncomputable def mX12_chance_b78 (x0 : Nat) (x1 : Int32) (x2 : Int32) (x3 : Int64) (x5 : Int64) (x7 : Int32) (h : Hp) : Option ((Int64 × Int64 × Int32) ⊕ (Int32 × Hp)) :=
  some (.inl (x3, x5, (x7 + (1 : Int32))))
noncomputable def mX12_chance_b76 (x0 : Nat) (x1 : Int32) (x2 : Int32) (x5 : Int64) (x7 : Int32) (t0 : Int64) (t1 : Int64) (h : Hp) : Option ((Int64 × Int64 × Int32) ⊕ (Int32 × Hp)) :=
  mX12_chance_b78 x0 x1 x2 (t0 + t1) x5 x7 h
noncomputable def mX12_chance_l27f (x0 : Nat) (x1 : Int32) (x2 : Int32) (h : Hp) (x3 : Int64) (x5 : Int64) (x7 : Int32) : Option ((Int64 × Int64 × Int32) ⊕ (Int32 × Hp)) :=
  if x7 < (256 : Int32) then
  ((mX12_isLeft x0 x7 h).bind fun v9 =>
  if v9 = 0 then
  (mX12_chance_b78 x0 x1 x2 x3 x5 x7 h)
  else ((mX12_weight x0 x7 h).bind fun v11 =>
  (mX12_isWon x0 x1 x7 h).bind fun v13 =>
  if v13 = 0 then
  (mX12_chance_b76 x0 x1 x2 (x5 + v11) x7 x3 (0 : Int64) h)
  else ((mX12_weight x0 x7 h).bind fun v15 =>
  mX12_chance_b76 x0 x1 x2 (x5 + v11) x7 x3 v15 h)))
  else (xt ((mX12_tellsBy x0 x3 x5 h).bind fun h6 =>
  if x2 = 0 then
  ((gL 12 36 x0 h6).bind fun v8 =>
  mX12_chance_b106 v8 h6)
  else ((gL 12 37 x0 h6).bind fun v7 =>
  mX12_chance_b106 v7 h6)))
noncomputable def mX12_chance_l27 (x0 : Nat) (x1 : Int32) (x2 : Int32) (x3 : Int64) (x5 : Int64) (x7 : Int32) (h : Hp) : Option (Int32 × Hp) :=
  lp (fun s : (Int64 × Int64 × Int32) => mX12_chance_l27f x0 x1 x2 h s.1 s.2.1 s.2.2) (x3, x5, x7)
noncomputable def mX12_chance (x0 : Nat) (x1 : Int32) (x2 : Int32) (h : Hp) : Option (Int32 × Hp) :=
  if (hpS h x0).1 = 13 then
  (mX12_isCount x0 x1 h).bind fun v1 =>
  if v1 = 0 then
  (some ((-1 : Int32), h))
  else ((mX12_in x2 (0 : Int32) (1 : Int32)).bind fun v3 =>
  if v3 = 0 then
  (some ((-1 : Int32), h))
  else (mX12_chance_l27 x0 x1 x2 (0 : Int64) (0 : Int64) (0 : Int32) h))
  else none

noncomputable def mX12_laysWins_b69 (x0 : Nat) (x1 : Int32) (x2 : Int32) (x3 : Int32) (t0 : Nat) (t1 : Int32) (t2 : Int32) (t3 : Int32) (h : Hp) : Option ((Int32 × Hp) ⊕ ((Int32 × Hp) ⊕ Hp)) :=
  (stI t0 t1 (t2 ||| t3) h).bind fun h13 =>
  some (.inl ((x3 + (1 : Int32)), h13))
noncomputable def mX12_laysWins_b68 (x0 : Nat) (x1 : Int32) (x2 : Int32) (x3 : Int32) (t0 : Nat) (t1 : Int32) (t2 : Int32) (h : Hp) : Option ((Int32 × Hp) ⊕ ((Int32 × Hp) ⊕ Hp)) :=
  mX12_laysWins_b69 x0 x1 x2 x3 t0 t1 t2 (0 : Int32) h
noncomputable def mX12_laysWins_l27f (x0 : Nat) (x1 : Int32) (x2 : Int32) (x3 : Int32) (h : Hp) : Option ((Int32 × Hp) ⊕ ((Int32 × Hp) ⊕ Hp)) :=
  (gR 12 4 x0 h).bind fun v7 =>
  (ldI v7 (18 : Int32) h).bind fun v8 =>
  if x3 < v8 then
  ((gR 12 38 x0 h).bind fun v9 =>
  (ldI v9 x2 h).bind fun v10 =>
  (mX12_has x1 x3).bind fun v11 =>
  if v11 = 0 then
  (mX12_laysWins_b68 x0 x1 x2 x3 v9 x2 v10 h)
  else ((mX12_isWon x0 x3 x2 h).bind fun v14 =>
  if v14 = 0 then
  (mX12_laysWins_b68 x0 x1 x2 x3 v9 x2 v10 h)
  else (mX12_laysWins_b69 x0 x1 x2 x3 v9 x2 v10 ((1 : Int32) <<< (x3 &&& 31)) h)))
  else (xt (some (.inl ((x2 + (1 : Int32)), h))))
noncomputable def mX12_laysWins_l27 (x0 : Nat) (x1 : Int32) (x2 : Int32) (x3 : Int32) (h : Hp) : Option ((Int32 × Hp) ⊕ Hp) :=
  lp (fun s : (Int32 × Hp) => mX12_laysWins_l27f x0 x1 x2 s.1 s.2) (x3, h)
noncomputable def mX12_laysWins_l11f (x0 : Nat) (x1 : Int32) (x2 : Int32) (h : Hp) : Option ((Int32 × Hp) ⊕ Hp) :=
  if x2 < (256 : Int32) then
  ((gR 12 38 x0 h).bind fun v5 =>
  (stI v5 x2 (0 : Int32) h).bind fun h6 =>
  mX12_laysWins_l27 x0 x1 x2 (0 : Int32) h6)
  else (xt (some h))
noncomputable def mX12_laysWins_l11 (x0 : Nat) (x1 : Int32) (x2 : Int32) (h : Hp) : Option Hp :=
  lp (fun s : (Int32 × Hp) => mX12_laysWins_l11f x0 x1 s.1 s.2) (x2, h)
noncomputable def mX12_laysWins (x0 : Nat) (h : Hp) : Option Hp :=
  if (hpS h x0).1 = 13 then
  b2 (mX12_standing x0 h) fun v1 h2 =>
  (mX12_laysInjuries x0 h2).bind fun h4 =>
  mX12_laysWins_l11 x0 v1 (0 : Int32) h4
  else none

noncomputable def mX12_awardOf_b75 (x0 : Nat) (x1 : Int32) (x2 : Int32) (x3 : Int32) (x5 : Int32) (t0 : Int32) (h : Hp) : Option ((Int32 × Int32) ⊕ ((Int32 × Int32) ⊕ Int32)) :=
  some (.inl (t0, (x5 + (1 : Int32))))
noncomputable def mX12_awardOf_b73 (x0 : Nat) (x1 : Int32) (x2 : Int32) (x3 : Int32) (x4 : Int32) (x5 : Int32) (h : Hp) : Option ((Int32 × Int32) ⊕ ((Int32 × Int32) ⊕ Int32)) :=
  mX12_awardOf_b75 x0 x1 x2 x3 x5 x4 h
noncomputable def mX12_awardOf_l21f (x0 : Nat) (x1 : Int32) (x2 : Int32) (x3 : Int32) (h : Hp) (x4 : Int32) (x5 : Int32) : Option ((Int32 × Int32) ⊕ ((Int32 × Int32) ⊕ Int32)) :=
  (gR 12 4 x0 h).bind fun v3 =>
  (ldI v3 (18 : Int32) h).bind fun v4 =>
  if x5 < v4 then
  ((gR 12 38 x0 h).bind fun v5 =>
  (ldI v5 x1 h).bind fun v6 =>
  (mX12_has v6 x5).bind fun v7 =>
  if v7 = 0 then
  (mX12_awardOf_b73 x0 x1 x2 x3 x4 x5 h)
  else ((gR 12 30 x0 h).bind fun v9 =>
  (ldI v9 x5 h).bind fun v10 =>
  if v10 = x3 then
  ((mX12_its x0 x5 (2 : Int32) h).bind fun v11 =>
  mX12_awardOf_b75 x0 x1 x2 x3 x5 (mmax x4 v11) h)
  else (mX12_awardOf_b73 x0 x1 x2 x3 x4 x5 h)))
  else (xt (some (.inl ((x2 + x4), (x3 + (1 : Int32))))))
noncomputable def mX12_awardOf_l21 (x0 : Nat) (x1 : Int32) (x2 : Int32) (x3 : Int32) (x4 : Int32) (x5 : Int32) (h : Hp) : Option ((Int32 × Int32) ⊕ Int32) :=
  lp (fun s : (Int32 × Int32) => mX12_awardOf_l21f x0 x1 x2 x3 h s.1 s.2) (x4, x5)
noncomputable def mX12_awardOf_l4f (x0 : Nat) (x1 : Int32) (h : Hp) (x2 : Int32) (x3 : Int32) : Option ((Int32 × Int32) ⊕ Int32) :=
  (gR 12 4 x0 h).bind fun v1 =>
  (ldI v1 (18 : Int32) h).bind fun v2 =>
  if x3 < v2 then
  (mX12_awardOf_l21 x0 x1 x2 x3 (0 : Int32) (0 : Int32) h)
  else (xt (some x2))
noncomputable def mX12_awardOf_l4 (x0 : Nat) (x1 : Int32) (x2 : Int32) (x3 : Int32) (h : Hp) : Option Int32 :=
  lp (fun s : (Int32 × Int32) => mX12_awardOf_l4f x0 x1 h s.1 s.2) (x2, x3)
noncomputable def mX12_awardOf (x0 : Nat) (x1 : Int32) (h : Hp) : Option Int32 :=
  if (hpS h x0).1 = 13 then
  mX12_awardOf_l4 x0 x1 (0 : Int32) (0 : Int32) h
  else none

noncomputable def mX12_award_b91 (x0 : Nat) (x1 : Int32) (x2 : Int32) (x3 : Int32) (x5 : Int32) (x6 : Int32) (t0 : Int32) (h : Hp) : Option ((Int32 × Int32 × Int32 × Int32) ⊕ (Int32 × Hp)) :=
  some (.inl (x2, (mmax x3 x6), t0, (x5 + (1 : Int32))))
noncomputable def mX12_award_b77 (x0 : Nat) (x1 : Int32) (x3 : Int32) (x4 : Int32) (x5 : Int32) (x6 : Int32) (t0 : Int32) (h : Hp) : Option ((Int32 × Int32 × Int32 × Int32) ⊕ (Int32 × Hp)) :=
  if x3 < x6 then
  (mX12_award_b91 x0 x1 t0 x3 x5 x6 x5 h)
  else (mX12_award_b91 x0 x1 t0 x3 x5 x6 x4 h)
noncomputable def mX12_award_b76 (x0 : Nat) (x1 : Int32) (x2 : Int32) (x3 : Int32) (x4 : Int32) (x5 : Int32) (x6 : Int32) (h : Hp) : Option ((Int32 × Int32 × Int32 × Int32) ⊕ (Int32 × Hp)) :=
  mX12_award_b77 x0 x1 x3 x4 x5 x6 x2 h
noncomputable def mX12_award_b71 (x0 : Nat) (x1 : Int32) (x3 : Int32) (x4 : Int32) (x5 : Int32) (x6 : Int32) (h : Hp) : Option ((Int32 × Int32 × Int32 × Int32) ⊕ (Int32 × Hp)) :=
  mX12_award_b77 x0 x1 x3 x4 x5 x6 x6 h
noncomputable def mX12_award_b52 (x0 : Nat) (x1 : Int32) (x2 : Int32) (x3 : Int32) (x4 : Int32) (x5 : Int32) (t0 : Int32) (h : Hp) : Option ((Int32 × Int32 × Int32 × Int32) ⊕ (Int32 × Hp)) :=
  if t0 = (-1 : Int32) then
  (mX12_award_b76 x0 x1 x2 x3 x4 x5 t0 h)
  else (if x2 = (-1 : Int32) then
  (mX12_award_b71 x0 x1 x3 x4 x5 t0 h)
  else (if t0 < x2 then
  (mX12_award_b71 x0 x1 x3 x4 x5 t0 h)
  else (mX12_award_b76 x0 x1 x2 x3 x4 x5 t0 h)))
noncomputable def mX12_award_l25f (x0 : Nat) (x1 : Int32) (h : Hp) (x2 : Int32) (x3 : Int32) (x4 : Int32) (x5 : Int32) : Option ((Int32 × Int32 × Int32 × Int32) ⊕ (Int32 × Hp)) :=
  if x5 < (256 : Int32) then
  ((mX12_isLeft x0 x5 h).bind fun v5 =>
  if v5 = 0 then
  (mX12_award_b52 x0 x1 x2 x3 x4 x5 (-1 : Int32) h)
  else ((mX12_awardOf x0 x5 h).bind fun v7 =>
  mX12_award_b52 x0 x1 x2 x3 x4 x5 v7 h))
  else (xt (if x1 = 0 then
  (some (x2, h))
  else (if x1 = (1 : Int32) then
  (some (x3, h))
  else (some (x4, h)))))
noncomputable def mX12_award_l25 (x0 : Nat) (x1 : Int32) (x2 : Int32) (x3 : Int32) (x4 : Int32) (x5 : Int32) (h : Hp) : Option (Int32 × Hp) :=
  lp (fun s : (Int32 × Int32 × Int32 × Int32) => mX12_award_l25f x0 x1 h s.1 s.2.1 s.2.2.1 s.2.2.2) (x2, x3, x4, x5)
noncomputable def mX12_award (x0 : Nat) (x1 : Int32) (h : Hp) : Option (Int32 × Hp) :=
  if (hpS h x0).1 = 13 then
  (mX12_in x1 (0 : Int32) (2 : Int32)).bind fun v1 =>
  if v1 = 0 then
  (some ((-1 : Int32), h))
  else ((mX12_laysWins x0 h).bind fun h4 =>
  mX12_award_l25 x0 x1 (-1 : Int32) (-1 : Int32) (0 : Int32) (0 : Int32) h4)
  else none

noncomputable def mX12_meant_b84 (x0 : Nat) (x1 : Int32) (x2 : Int64) (x6 : Int32) (t0 : Int64) (t1 : Int64) (h : Hp) : Option ((Int64 × Int64 × Int32) ⊕ (Int64 × Hp)) :=
  some (.inl (x2, (t0 + t1), (x6 + (1 : Int32))))
noncomputable def mX12_meant_b61 (x0 : Nat) (x1 : Int32) (x4 : Int64) (x6 : Int32) (t0 : Int64) (t1 : Int64) (h : Hp) : Option ((Int64 × Int64 × Int32) ⊕ (Int64 × Hp)) :=
  (mX12_isLeft x0 x6 h).bind fun v11 =>
  if v11 = 0 then
  (mX12_meant_b84 x0 x1 (t0 + t1) x6 x4 (0 : Int64) h)
  else ((mX12_weight x0 x6 h).bind fun v13 =>
  mX12_meant_b84 x0 x1 (t0 + t1) x6 x4 v13 h)
noncomputable def mX12_meant_l25f (x0 : Nat) (x1 : Int32) (h : Hp) (x2 : Int64) (x4 : Int64) (x6 : Int32) : Option ((Int64 × Int64 × Int32) ⊕ (Int64 × Hp)) :=
  if x6 < (256 : Int32) then
  ((mX12_isLeft x0 x6 h).bind fun v9 =>
  if v9 = 0 then
  (mX12_meant_b61 x0 x1 x4 x6 x2 (0 : Int64) h)
  else ((mX12_awardOf x0 x6 h).bind fun v15 =>
  (mX12_weight x0 x6 h).bind fun v17 =>
  mX12_meant_b61 x0 x1 x4 x6 x2 (v15.toInt64 * v17) h))
  else (xt ((mX12_tellsBy x0 x2 x4 h).bind fun h6 =>
  if x1 = 0 then
  ((gL 12 36 x0 h6).bind fun v8 =>
  some (v8, h6))
  else ((gL 12 37 x0 h6).bind fun v7 =>
  some (v7, h6))))
noncomputable def mX12_meant_l25 (x0 : Nat) (x1 : Int32) (x2 : Int64) (x4 : Int64) (x6 : Int32) (h : Hp) : Option (Int64 × Hp) :=
  lp (fun s : (Int64 × Int64 × Int32) => mX12_meant_l25f x0 x1 h s.1 s.2.1 s.2.2) (x2, x4, x6)
noncomputable def mX12_meant (x0 : Nat) (x1 : Int32) (h : Hp) : Option (Int64 × Hp) :=
  if (hpS h x0).1 = 13 then
  (mX12_in x1 (0 : Int32) (1 : Int32)).bind fun v1 =>
  if v1 = 0 then
  (some ((-1 : Int64), h))
  else ((mX12_laysWins x0 h).bind fun h4 =>
  mX12_meant_l25 x0 x1 (0 : Int64) (0 : Int64) (0 : Int32) h4)
  else none

noncomputable def mX12_firstLike_b25 (x0 : Nat) (x1 : Int32) (x2 : Int32) (h : Hp) : Option (Int32 ⊕ Int32) :=
  some (.inl (x2 + (1 : Int32)))
noncomputable def mX12_firstLike_l2f (x0 : Nat) (x1 : Int32) (h : Hp) (x2 : Int32) : Option (Int32 ⊕ Int32) :=
  (mX12_isLeft x0 x2 h).bind fun v1 =>
  if v1 = 0 then
  (mX12_firstLike_b25 x0 x1 x2 h)
  else ((gR 12 38 x0 h).bind fun v3 =>
  (ldI v3 x2 h).bind fun v4 =>
  (gR 12 38 x0 h).bind fun v5 =>
  (ldI v5 x1 h).bind fun v6 =>
  if v4 = v6 then
  (xt (some x2))
  else (mX12_firstLike_b25 x0 x1 x2 h))
noncomputable def mX12_firstLike_l2 (x0 : Nat) (x1 : Int32) (x2 : Int32) (h : Hp) : Option Int32 :=
  lp (fun s : Int32 => mX12_firstLike_l2f x0 x1 h s) x2
noncomputable def mX12_firstLike (x0 : Nat) (x1 : Int32) (h : Hp) : Option Int32 :=
  if (hpS h x0).1 = 13 then
  mX12_firstLike_l2 x0 x1 (0 : Int32) h
  else none

noncomputable def mX12_outcomes_b38 (x0 : Nat) (x2 : Int32) (t0 : Int32) (t1 : Int32) (h : Hp) : Option ((Int32 × Int32) ⊕ (Int32 × Hp)) :=
  some (.inl ((t0 + t1), (x2 + (1 : Int32))))
noncomputable def mX12_outcomes_b37 (x0 : Nat) (x2 : Int32) (t0 : Int32) (h : Hp) : Option ((Int32 × Int32) ⊕ (Int32 × Hp)) :=
  mX12_outcomes_b38 x0 x2 t0 (0 : Int32) h
noncomputable def mX12_outcomes_l8f (x0 : Nat) (h : Hp) (x1 : Int32) (x2 : Int32) : Option ((Int32 × Int32) ⊕ (Int32 × Hp)) :=
  if x2 < (256 : Int32) then
  ((mX12_isLeft x0 x2 h).bind fun v3 =>
  if v3 = 0 then
  (mX12_outcomes_b37 x0 x2 x1 h)
  else ((mX12_firstLike x0 x2 h).bind fun v5 =>
  if v5 = x2 then
  (mX12_outcomes_b38 x0 x2 x1 (1 : Int32) h)
  else (mX12_outcomes_b37 x0 x2 x1 h)))
  else (xt (some (x1, h)))
noncomputable def mX12_outcomes_l8 (x0 : Nat) (x1 : Int32) (x2 : Int32) (h : Hp) : Option (Int32 × Hp) :=
  lp (fun s : (Int32 × Int32) => mX12_outcomes_l8f x0 h s.1 s.2) (x1, x2)
noncomputable def mX12_outcomes (x0 : Nat) (h : Hp) : Option (Int32 × Hp) :=
  if (hpS h x0).1 = 13 then
  (mX12_laysWins x0 h).bind fun h2 =>
  mX12_outcomes_l8 x0 (0 : Int32) (0 : Int32) h2
  else none

noncomputable def mX12_outcome_b114 (x0 : Nat) (x2 : Int32) (x3 : Int32) (x5 : Int32) (t0 : Int32) (t1 : Int32) (h : Hp) : Option ((Int32 × Int32) ⊕ (Int32 × Hp)) :=
  some (.inl ((t0 + t1), (x5 + (1 : Int32))))
noncomputable def mX12_outcome_b113 (x0 : Nat) (x2 : Int32) (x3 : Int32) (x5 : Int32) (t0 : Int32) (h : Hp) : Option ((Int32 × Int32) ⊕ (Int32 × Hp)) :=
  mX12_outcome_b114 x0 x2 x3 x5 t0 (0 : Int32) h
noncomputable def mX12_outcome_l74f (x0 : Nat) (x2 : Int32) (x3 : Int32) (h : Hp) (x4 : Int32) (x5 : Int32) : Option ((Int32 × Int32) ⊕ (Int32 × Hp)) :=
  if x5 < (256 : Int32) then
  ((mX12_isLeft x0 x5 h).bind fun v9 =>
  if v9 = 0 then
  (mX12_outcome_b113 x0 x2 x3 x5 x4 h)
  else ((gR 12 38 x0 h).bind fun v11 =>
  (ldI v11 x5 h).bind fun v12 =>
  (gR 12 38 x0 h).bind fun v13 =>
  (ldI v13 x3 h).bind fun v14 =>
  if v12 = v14 then
  (mX12_outcome_b114 x0 x2 x3 x5 x4 (1 : Int32) h)
  else (mX12_outcome_b113 x0 x2 x3 x5 x4 h)))
  else (xt (if x2 = 0 then
  ((gR 12 38 x0 h).bind fun v7 =>
  (ldI v7 x3 h).bind fun v8 =>
  some (v8, h))
  else (if x2 = (1 : Int32) then
  (some (x4, h))
  else (some (x3, h)))))
noncomputable def mX12_outcome_l74 (x0 : Nat) (x2 : Int32) (x3 : Int32) (x4 : Int32) (x5 : Int32) (h : Hp) : Option (Int32 × Hp) :=
  lp (fun s : (Int32 × Int32) => mX12_outcome_l74f x0 x2 x3 h s.1 s.2) (x4, x5)
noncomputable def mX12_outcome_b56 (x0 : Nat) (x1 : Int32) (x2 : Int32) (x3 : Int32) (x4 : Int32) (h : Hp) : Option (Int32 ⊕ ((Int32 × Int32) ⊕ (Int32 × Hp))) :=
  some (.inl (x3 + (1 : Int32)))
noncomputable def mX12_outcome_l39f (x0 : Nat) (x1 : Int32) (x2 : Int32) (x4 : Int32) (h : Hp) (x3 : Int32) : Option (Int32 ⊕ ((Int32 × Int32) ⊕ (Int32 × Hp))) :=
  (mX12_isLeft x0 x3 h).bind fun v15 =>
  if v15 = 0 then
  (mX12_outcome_b56 x0 x1 x2 x3 x4 h)
  else ((mX12_firstLike x0 x3 h).bind fun v17 =>
  if v17 = x3 then
  (xt (some (.inl (x3, (x4 + (1 : Int32))))))
  else (mX12_outcome_b56 x0 x1 x2 x3 x4 h))
noncomputable def mX12_outcome_l39 (x0 : Nat) (x1 : Int32) (x2 : Int32) (x3 : Int32) (x4 : Int32) (h : Hp) : Option ((Int32 × Int32) ⊕ (Int32 × Hp)) :=
  lp (fun s : Int32 => mX12_outcome_l39f x0 x1 x2 x4 h s) x3
noncomputable def mX12_outcome_l30f (x0 : Nat) (x1 : Int32) (x2 : Int32) (h : Hp) (x3 : Int32) (x4 : Int32) : Option ((Int32 × Int32) ⊕ (Int32 × Hp)) :=
  if x1 < x4 then
  (xt (mX12_outcome_l74 x0 x2 x3 (0 : Int32) (0 : Int32) h))
  else (mX12_outcome_l39 x0 x1 x2 (x3 + (1 : Int32)) x4 h)
noncomputable def mX12_outcome_l30 (x0 : Nat) (x1 : Int32) (x2 : Int32) (x3 : Int32) (x4 : Int32) (h : Hp) : Option (Int32 × Hp) :=
  lp (fun s : (Int32 × Int32) => mX12_outcome_l30f x0 x1 x2 h s.1 s.2) (x3, x4)
noncomputable def mX12_outcome (x0 : Nat) (x1 : Int32) (x2 : Int32) (h : Hp) : Option (Int32 × Hp) :=
  if (hpS h x0).1 = 13 then
  (mX12_in x2 (0 : Int32) (2 : Int32)).bind fun v1 =>
  if v1 = 0 then
  (some ((-1 : Int32), h))
  else (b2 (mX12_outcomes x0 h) fun v3 h4 =>
  (mX12_in x1 (0 : Int32) (v3 - (1 : Int32))).bind fun v5 =>
  if v5 = 0 then
  (some ((-1 : Int32), h4))
  else (mX12_outcome_l30 x0 x1 x2 (-1 : Int32) (0 : Int32) h4))
  else none

noncomputable def mX12_together_b83 (x0 : Nat) (x1 : Int32) (x2 : Int32) (x3 : Int32) (h : Hp) : Option (Int32 ⊕ Int32) :=
  if x3 = 0 then
  (some (.inl (x2 + (1 : Int32))))
  else (xt (some (1 : Int32)))
noncomputable def mX12_together_b76 (x0 : Nat) (x1 : Int32) (x2 : Int32) (x4 : Int32) (t0 : Int32) (h : Hp) : Option ((Int32 × Int32) ⊕ (Int32 ⊕ Int32)) :=
  some (.inl (t0, (x4 + (1 : Int32))))
noncomputable def mX12_together_b71 (x0 : Nat) (x1 : Int32) (x2 : Int32) (x4 : Int32) (h : Hp) : Option ((Int32 × Int32) ⊕ (Int32 ⊕ Int32)) :=
  mX12_together_b76 x0 x1 x2 x4 (1 : Int32) h
noncomputable def mX12_together_l36f (x0 : Nat) (x1 : Int32) (x2 : Int32) (h : Hp) (x3 : Int32) (x4 : Int32) : Option ((Int32 × Int32) ⊕ (Int32 ⊕ Int32)) :=
  (gR 12 4 x0 h).bind fun v5 =>
  (ldI v5 (18 : Int32) h).bind fun v6 =>
  if x4 < v6 then
  (if x3 = 0 then
  (xt (mX12_together_b83 x0 x1 x2 x3 h))
  else ((mX12_has x1 x4).bind fun v7 =>
  if v7 = 0 then
  (mX12_together_b71 x0 x1 x2 x4 h)
  else ((mX12_isWon x0 x4 x2 h).bind fun v9 =>
  if v9 = 0 then
  (mX12_together_b76 x0 x1 x2 x4 (0 : Int32) h)
  else (mX12_together_b71 x0 x1 x2 x4 h))))
  else (xt (mX12_together_b83 x0 x1 x2 x3 h))
noncomputable def mX12_together_l36 (x0 : Nat) (x1 : Int32) (x2 : Int32) (x3 : Int32) (x4 : Int32) (h : Hp) : Option (Int32 ⊕ Int32) :=
  lp (fun s : (Int32 × Int32) => mX12_together_l36f x0 x1 x2 h s.1 s.2) (x3, x4)
noncomputable def mX12_together_l20f (x0 : Nat) (x1 : Int32) (h : Hp) (x2 : Int32) : Option (Int32 ⊕ Int32) :=
  if x2 < (256 : Int32) then
  ((mX12_isLeft x0 x2 h).bind fun v3 =>
  mX12_together_l36 x0 x1 x2 v3 (0 : Int32) h)
  else (xt (some (0 : Int32)))
noncomputable def mX12_together_l20 (x0 : Nat) (x1 : Int32) (x2 : Int32) (h : Hp) : Option Int32 :=
  lp (fun s : Int32 => mX12_together_l20f x0 x1 h s) x2
noncomputable def mX12_together (x0 : Nat) (x1 : Int32) (h : Hp) : Option Int32 :=
  if (hpS h x0).1 = 13 then
  if x1 < 0 then
  (some (-1 : Int32))
  else ((gR 12 4 x0 h).bind fun v1 =>
  (ldI v1 (18 : Int32) h).bind fun v2 =>
  if (x1 >>> (v2 &&& 31)) = 0 then
  (mX12_together_l20 x0 x1 (0 : Int32) h)
  else (some (-1 : Int32)))
  else none

noncomputable def mX12_elect_b82 (x0 : Nat) (x1 : Int32) (x3 : Int32) (t0 : Int32) (h : Hp) : Option ((Int32 × Int32) ⊕ (Int32 × Hp)) :=
  some (.inl (t0, (x3 + (1 : Int32))))
noncomputable def mX12_elect_b76 (x0 : Nat) (x1 : Int32) (x3 : Int32) (x4 : Int32) (h : Hp) : Option ((Int32 × Int32) ⊕ (Int32 × Hp)) :=
  mX12_elect_b82 x0 x1 x3 x4 h
noncomputable def mX12_elect_b81 (x0 : Nat) (x1 : Int32) (x2 : Int32) (x3 : Int32) (h : Hp) : Option ((Int32 × Int32) ⊕ (Int32 × Hp)) :=
  mX12_elect_b82 x0 x1 x3 x2 h
noncomputable def mX12_elect_b44 (x0 : Nat) (x1 : Int32) (x2 : Int32) (x3 : Int32) (t0 : Int32) (h : Hp) : Option ((Int32 × Int32) ⊕ (Int32 × Hp)) :=
  (mX12_bits t0).bind fun v9 =>
  (mX12_bits x2).bind fun v11 =>
  if v11 < v9 then
  (mX12_elect_b76 x0 x1 x3 t0 h)
  else ((mX12_bits t0).bind fun v13 =>
  (mX12_bits x2).bind fun v15 =>
  if v13 = v15 then
  (if t0 < x2 then
  (mX12_elect_b76 x0 x1 x3 t0 h)
  else (mX12_elect_b81 x0 x1 x2 x3 h))
  else (mX12_elect_b81 x0 x1 x2 x3 h))
noncomputable def mX12_elect_l19f (x0 : Nat) (x1 : Int32) (h : Hp) (x2 : Int32) (x3 : Int32) : Option ((Int32 × Int32) ⊕ (Int32 × Hp)) :=
  if x3 < (256 : Int32) then
  ((mX12_isLeft x0 x3 h).bind fun v7 =>
  if v7 = 0 then
  (mX12_elect_b44 x0 x1 x2 x3 (0 : Int32) h)
  else ((gR 12 38 x0 h).bind fun v17 =>
  (ldI v17 x3 h).bind fun v18 =>
  mX12_elect_b44 x0 x1 x2 x3 v18 h))
  else (xt (if x1 = 0 then
  ((mX12_bits x2).bind fun v5 =>
  some (v5, h))
  else (some (x2, h))))
noncomputable def mX12_elect_l19 (x0 : Nat) (x1 : Int32) (x2 : Int32) (x3 : Int32) (h : Hp) : Option (Int32 × Hp) :=
  lp (fun s : (Int32 × Int32) => mX12_elect_l19f x0 x1 h s.1 s.2) (x2, x3)
noncomputable def mX12_elect (x0 : Nat) (x1 : Int32) (h : Hp) : Option (Int32 × Hp) :=
  if (hpS h x0).1 = 13 then
  (mX12_in x1 (0 : Int32) (1 : Int32)).bind fun v1 =>
  if v1 = 0 then
  (some ((-1 : Int32), h))
  else ((mX12_laysWins x0 h).bind fun h4 =>
  mX12_elect_l19 x0 x1 (0 : Int32) (0 : Int32) h4)
  else none

noncomputable def mX12_ask_b185 (x0 : Nat) (x1 : Int32) (x2 : Int64) (x6 : Int32) (t0 : Int64) (t1 : Int64) (h : Hp) : Option ((Int32 × Int64 × Int64 × Int32 × Hp) ⊕ (Int32 × Hp)) :=
  some (.inl (x1, x2, (t0 + t1), (x6 + (1 : Int32)), h))
noncomputable def mX12_ask_b162 (x0 : Nat) (x1 : Int32) (x4 : Int64) (x6 : Int32) (t0 : Int64) (t1 : Int64) (h : Hp) : Option ((Int32 × Int64 × Int64 × Int32 × Hp) ⊕ (Int32 × Hp)) :=
  (mX12_isLeft x0 x6 h).bind fun v28 =>
  if v28 = 0 then
  (mX12_ask_b185 x0 x1 (t0 + t1) x6 x4 (0 : Int64) h)
  else ((mX12_weight x0 x6 h).bind fun v30 =>
  mX12_ask_b185 x0 x1 (t0 + t1) x6 x4 v30 h)
noncomputable def mX12_ask_b144 (x0 : Nat) (x2 : Int64) (x4 : Int64) (x6 : Int32) (x7 : Int32) (t0 : Int32) (t1 : Int32) (h : Hp) : Option ((Int32 × Int64 × Int64 × Int32 × Hp) ⊕ (Int32 × Hp)) :=
  if x7 = 0 then
  (mX12_ask_b162 x0 (t0 + t1) x4 x6 x2 (0 : Int64) h)
  else ((mX12_weight x0 x6 h).bind fun v32 =>
  mX12_ask_b162 x0 (t0 + t1) x4 x6 x2 v32 h)
noncomputable def mX12_ask_b131 (x0 : Nat) (x1 : Int32) (x2 : Int64) (x4 : Int64) (x6 : Int32) (t0 : Int32) (h : Hp) : Option ((Int32 × Int64 × Int64 × Int32 × Hp) ⊕ (Int32 × Hp)) :=
  if t0 = 0 then
  (mX12_ask_b144 x0 x2 x4 x6 t0 x1 (0 : Int32) h)
  else (mX12_ask_b144 x0 x2 x4 x6 t0 x1 (1 : Int32) h)
noncomputable def mX12_ask_b130 (x0 : Nat) (x1 : Int32) (x2 : Int64) (x4 : Int64) (x6 : Int32) (h : Hp) : Option ((Int32 × Int64 × Int64 × Int32 × Hp) ⊕ (Int32 × Hp)) :=
  mX12_ask_b131 x0 x1 x2 x4 x6 (0 : Int32) h
noncomputable def mX12_ask_l94f (x0 : Nat) (x1 : Int32) (x2 : Int64) (x4 : Int64) (x6 : Int32) (h : Hp) : Option ((Int32 × Int64 × Int64 × Int32 × Hp) ⊕ (Int32 × Hp)) :=
  if x6 < (256 : Int32) then
  ((mX12_isLeft x0 x6 h).bind fun v26 =>
  if v26 = 0 then
  (mX12_ask_b130 x0 x1 x2 x4 x6 h)
  else ((gR 12 1 x0 h).bind fun v34 =>
  b2 (mX12_holds x0 v34 (0 : Int32) x6 h) fun v35 h36 =>
  if v35 = (1 : Int32) then
  (mX12_ask_b131 x0 x1 x2 x4 x6 (1 : Int32) h36)
  else (mX12_ask_b130 x0 x1 x2 x4 x6 h36)))
  else (xt ((mX12_tellsBy x0 x2 x4 h).bind fun h17 =>
  (sZ 12 39 x0 (1 : Int32) h17).bind fun h18 =>
  (gL 12 36 x0 h18).bind fun v19 =>
  (sL 12 40 x0 v19 h18).bind fun h20 =>
  (gL 12 37 x0 h20).bind fun v21 =>
  (sL 12 41 x0 v21 h20).bind fun h22 =>
  if x1 = 0 then
  (some ((0 : Int32), h22))
  else ((gR 12 27 x0 h22).bind fun v23 =>
  (mX12_many v23 h22).bind fun v24 =>
  if x1 = v24 then
  (some ((1 : Int32), h22))
  else (some ((2 : Int32), h22)))))
noncomputable def mX12_ask_l94 (x0 : Nat) (x1 : Int32) (x2 : Int64) (x4 : Int64) (x6 : Int32) (h : Hp) : Option (Int32 × Hp) :=
  lp (fun s : (Int32 × Int64 × Int64 × Int32 × Hp) => mX12_ask_l94f x0 s.1 s.2.1 s.2.2.1 s.2.2.2.1 s.2.2.2.2) (x1, x2, x4, x6, h)
noncomputable def mX12_ask_b75 (x0 : Nat) (h : Hp) : Option (Int32 × Hp) :=
  b2 (mX12_isRead x0 h) fun v14 h15 =>
  if v14 = 0 then
  (some ((-1 : Int32), h15))
  else (mX12_ask_l94 x0 (0 : Int32) (0 : Int64) (0 : Int64) (0 : Int32) h15)
noncomputable def mX12_ask_l34f (x0 : Nat) (x1 : Int32) (h : Hp) : Option ((Int32 × Hp) ⊕ (Int32 × Hp)) :=
  if x1 < (8 : Int32) then
  ((gR 12 3 x0 h).bind fun v39 =>
  (gR 12 2 x0 h).bind fun v40 =>
  (ldL v40 x1 h).bind fun v41 =>
  (stL v39 x1 v41 h).bind fun h42 =>
  some (.inl ((x1 + (1 : Int32)), h42)))
  else (xt (b2 (mX12_expr x0 h) fun v11 h12 =>
  (gI 12 14 x0 h12).bind fun v13 =>
  if v13 = 0 then
  (mX12_ask_b75 x0 h12)
  else ((mX12_wrong x0 (1 : Int32) h12).bind fun h38 =>
  mX12_ask_b75 x0 h38)))
noncomputable def mX12_ask_l34 (x0 : Nat) (x1 : Int32) (h : Hp) : Option (Int32 × Hp) :=
  lp (fun s : (Int32 × Hp) => mX12_ask_l34f x0 s.1 s.2) (x1, h)
noncomputable def mX12_ask (x0 : Nat) (h : Hp) : Option (Int32 × Hp) :=
  if (hpS h x0).1 = 13 then
  (mX12_takes x0 h).bind fun h2 =>
  (gR 12 1 x0 h2).bind fun v3 =>
  (gR 12 0 x0 h2).bind fun v4 =>
  (ldI v4 (1 : Int32) h2).bind fun v5 =>
  (stI v3 (1 : Int32) v5 h2).bind fun h6 =>
  (gR 12 1 x0 h6).bind fun v7 =>
  (stI v7 (6 : Int32) (0 : Int32) h6).bind fun h8 =>
  (gR 12 1 x0 h8).bind fun v9 =>
  (stI v9 (7 : Int32) (0 : Int32) h8).bind fun h10 =>
  mX12_ask_l34 x0 (0 : Int32) h10
  else none

noncomputable def mX12_asked_b35 (t0 : Int64) (h : Hp) : Option Int32 :=
  some t0.toInt32
noncomputable def mX12_asked (x0 : Nat) (x1 : Int32) (h : Hp) : Option Int32 :=
  if (hpS h x0).1 = 13 then
  (gI 12 39 x0 h).bind fun v1 =>
  if v1 = 0 then
  (some (-1 : Int32))
  else ((mX12_in x1 (0 : Int32) (1 : Int32)).bind fun v2 =>
  if v2 = 0 then
  (some (-1 : Int32))
  else (if x1 = 0 then
  ((gL 12 40 x0 h).bind fun v5 =>
  mX12_asked_b35 v5 h)
  else ((gL 12 41 x0 h).bind fun v4 =>
  mX12_asked_b35 v4 h)))
  else none

noncomputable def mX12_count (x0 : Nat) (x1 : Int32) (h : Hp) : Option (Int32 × Hp) :=
  if (hpS h x0).1 = 13 then
  tsw x1 (0) [(gR 12 0 x0 h).bind fun v1 =>
  (ldI v1 (0 : Int32) h).bind fun v2 =>
  some (v2, h),
  (gR 12 0 x0 h).bind fun v3 =>
  (ldI v3 (1 : Int32) h).bind fun v4 =>
  some (v4, h),
  (gR 12 4 x0 h).bind fun v5 =>
  (ldI v5 (18 : Int32) h).bind fun v6 =>
  some (v6, h),
  b2 (mX12_standing x0 h) fun v7 h8 =>
  (mX12_bits v7).bind fun v9 =>
  some (v9, h8),
  (gR 12 4 x0 h).bind fun v11 =>
  (ldI v11 (17 : Int32) h).bind fun v12 =>
  some (v12, h),
  (gR 12 4 x0 h).bind fun v13 =>
  (ldI v13 (16 : Int32) h).bind fun v14 =>
  some (v14, h),
  (mX12_knownFacts x0 h).bind fun v15 =>
  (mX12_bits v15).bind fun v17 =>
  some (v17, h),
  (gI 12 8 x0 h).bind fun v19 =>
  some (v19, h),
  (gI 12 10 x0 h).bind fun v20 =>
  some (v20, h),
  (gR 12 0 x0 h).bind fun v21 =>
  (ldI v21 (5 : Int32) h).bind fun v22 =>
  some (v22, h)] (some ((-1 : Int32), h))
  else none

noncomputable def mL_law_b1414 (x0 : Nat) (x1 : Nat) (x2 : Nat) (x3 : Int32) (h : Hp) : Option ((Int32 × Hp) ⊕ (Int32 × Hp)) :=
  some (.inl ((x3 + (5 : Int32)), h))
noncomputable def mL_law_b556 (x0 : Nat) (x1 : Nat) (x2 : Nat) (x3 : Int32) (t0 : Int32) (t1 : Nat) (t2 : Int32) (t3 : Int32) (h : Hp) : Option ((Int32 × Hp) ⊕ (Int32 × Hp)) :=
  b2 (mX12_find t1 t2 t3 h) fun v93 h94 =>
  if t0 = v93 then
  (mL_law_b1414 x0 x1 x2 x3 h94)
  else (xt (some ((0 : Int32), h94)))
noncomputable def mL_law_b534 (x0 : Nat) (x1 : Nat) (x2 : Nat) (x3 : Int32) (t0 : Nat) (t1 : Int32) (t2 : Int32) (h : Hp) : Option ((Int32 × Hp) ⊕ (Int32 × Hp)) :=
  b2 (mX11_find t0 t1 t2 h) fun v89 h90 =>
  (ldI x0 (x3 + (1 : Int32)) h90).bind fun v91 =>
  (ldI x0 (x3 + (2 : Int32)) h90).bind fun v92 =>
  if v92 = 0 then
  (mL_law_b556 x0 x1 x2 x3 v89 x2 v91 (0 : Int32) h90)
  else (mL_law_b556 x0 x1 x2 x3 v89 x2 v91 (1 : Int32) h90)
noncomputable def mL_law_b1156 (x0 : Nat) (x1 : Nat) (x2 : Nat) (x3 : Int32) (t0 : Int32) (t1 : Nat) (t2 : Int32) (t3 : Int32) (h : Hp) : Option ((Int32 × Hp) ⊕ (Int32 × Hp)) :=
  b2 (mX12_proofs t1 t2 t3 h) fun v239 h240 =>
  if t0 = v239 then
  (mL_law_b1414 x0 x1 x2 x3 h240)
  else (xt (some ((0 : Int32), h240)))
noncomputable def mL_law_b1134 (x0 : Nat) (x1 : Nat) (x2 : Nat) (x3 : Int32) (t0 : Nat) (t1 : Int32) (t2 : Int32) (h : Hp) : Option ((Int32 × Hp) ⊕ (Int32 × Hp)) :=
  b2 (mX11_proofs t0 t1 t2 h) fun v235 h236 =>
  (ldI x0 (x3 + (1 : Int32)) h236).bind fun v237 =>
  (ldI x0 (x3 + (2 : Int32)) h236).bind fun v238 =>
  if v238 = 0 then
  (mL_law_b1156 x0 x1 x2 x3 v235 x2 v237 (0 : Int32) h236)
  else (mL_law_b1156 x0 x1 x2 x3 v235 x2 v237 (1 : Int32) h236)
noncomputable def mL_law_b1215 (x0 : Nat) (x1 : Nat) (x2 : Nat) (x3 : Int32) (t0 : Int32) (t1 : Nat) (t2 : Int32) (t3 : Int32) (h : Hp) : Option ((Int32 × Hp) ⊕ (Int32 × Hp)) :=
  (ldI x0 (x3 + (3 : Int32)) h).bind fun v249 =>
  (ldI x0 (x3 + (4 : Int32)) h).bind fun v250 =>
  b2 (mX12_proof t1 t2 t3 v249 v250 h) fun v251 h252 =>
  if t0 = v251 then
  (mL_law_b1414 x0 x1 x2 x3 h252)
  else (xt (some ((0 : Int32), h252)))
noncomputable def mL_law_b1183 (x0 : Nat) (x1 : Nat) (x2 : Nat) (x3 : Int32) (t0 : Nat) (t1 : Int32) (t2 : Int32) (h : Hp) : Option ((Int32 × Hp) ⊕ (Int32 × Hp)) :=
  (ldI x0 (x3 + (3 : Int32)) h).bind fun v243 =>
  (ldI x0 (x3 + (4 : Int32)) h).bind fun v244 =>
  b2 (mX11_proof t0 t1 t2 v243 v244 h) fun v245 h246 =>
  (ldI x0 (x3 + (1 : Int32)) h246).bind fun v247 =>
  (ldI x0 (x3 + (2 : Int32)) h246).bind fun v248 =>
  if v248 = 0 then
  (mL_law_b1215 x0 x1 x2 x3 v245 x2 v247 (0 : Int32) h246)
  else (mL_law_b1215 x0 x1 x2 x3 v245 x2 v247 (1 : Int32) h246)
noncomputable def mL_law_l18f (x0 : Nat) (x1 : Nat) (x2 : Nat) (x3 : Int32) (h : Hp) : Option ((Int32 × Hp) ⊕ (Int32 × Hp)) :=
  (aLen x0 h).bind fun v9 =>
  if (v9 - (5 : Int32)) < x3 then
  (xt (some ((1 : Int32), h)))
  else ((ldI x0 x3 h).bind fun v10 =>
  tsw (v10 &&& (63 : Int32)) (0) [(ldI x0 (x3 + (1 : Int32)) h).bind fun v11 =>
  b2 (mX11_sign x1 v11 h) fun v12 h13 =>
  (ldI x0 (x3 + (1 : Int32)) h13).bind fun v14 =>
  b2 (mX12_sign x2 v14 h13) fun v15 h16 =>
  if v12 = v15 then
  (mL_law_b1414 x0 x1 x2 x3 h16)
  else (xt (some ((0 : Int32), h16))),
  (ldI x0 (x3 + (1 : Int32)) h).bind fun v17 =>
  b2 (mX11_end x1 v17 h) fun v18 h19 =>
  (ldI x0 (x3 + (1 : Int32)) h19).bind fun v20 =>
  b2 (mX12_end x2 v20 h19) fun v21 h22 =>
  if v18 = v21 then
  (mL_law_b1414 x0 x1 x2 x3 h22)
  else (xt (some ((0 : Int32), h22))),
  b2 (mX11_suit x1 h) fun v23 h24 =>
  b2 (mX12_suit x2 h24) fun v25 h26 =>
  if v23 = v25 then
  (mL_law_b1414 x0 x1 x2 x3 h26)
  else (xt (some ((0 : Int32), h26))),
  (ldI x0 (x3 + (1 : Int32)) h).bind fun v27 =>
  (mX11_fault x1 v27 h).bind fun v28 =>
  (ldI x0 (x3 + (1 : Int32)) h).bind fun v30 =>
  (mX12_fault x2 v30 h).bind fun v31 =>
  if v28 = v31 then
  (mL_law_b1414 x0 x1 x2 x3 h)
  else (xt (some ((0 : Int32), h))),
  (ldI x0 (x3 + (1 : Int32)) h).bind fun v33 =>
  (ldI x0 (x3 + (2 : Int32)) h).bind fun v34 =>
  (mX11_fact x1 v33 v34 h).bind fun v35 =>
  (ldI x0 (x3 + (1 : Int32)) h).bind fun v37 =>
  (ldI x0 (x3 + (2 : Int32)) h).bind fun v38 =>
  (mX12_fact x2 v37 v38 h).bind fun v39 =>
  if v35 = v39 then
  (mL_law_b1414 x0 x1 x2 x3 h)
  else (xt (some ((0 : Int32), h))),
  (ldI x0 (x3 + (1 : Int32)) h).bind fun v41 =>
  (ldI x0 (x3 + (2 : Int32)) h).bind fun v42 =>
  b2 (mX11_of x1 v41 v42 h) fun v43 h44 =>
  (ldI x0 (x3 + (1 : Int32)) h44).bind fun v45 =>
  (ldI x0 (x3 + (2 : Int32)) h44).bind fun v46 =>
  b2 (mX12_of x2 v45 v46 h44) fun v47 h48 =>
  if v43 = v47 then
  (mL_law_b1414 x0 x1 x2 x3 h48)
  else (xt (some ((0 : Int32), h48))),
  (ldI x0 (x3 + (1 : Int32)) h).bind fun v49 =>
  (ldI x0 (x3 + (2 : Int32)) h).bind fun v50 =>
  (ldI x0 (x3 + (3 : Int32)) h).bind fun v51 =>
  b2 (mX11_element x1 v49 v50 v51 h) fun v52 h53 =>
  (ldI x0 (x3 + (1 : Int32)) h53).bind fun v54 =>
  (ldI x0 (x3 + (2 : Int32)) h53).bind fun v55 =>
  (ldI x0 (x3 + (3 : Int32)) h53).bind fun v56 =>
  b2 (mX12_element x2 v54 v55 v56 h53) fun v57 h58 =>
  if v52 = v57 then
  (mL_law_b1414 x0 x1 x2 x3 h58)
  else (xt (some ((0 : Int32), h58))),
  (ldI x0 (x3 + (1 : Int32)) h).bind fun v59 =>
  (ldI x0 (x3 + (2 : Int32)) h).bind fun v60 =>
  (ldI x0 (x3 + (3 : Int32)) h).bind fun v61 =>
  b2 (mX11_bar x1 v59 v60 v61 h) fun v62 h63 =>
  (ldI x0 (x3 + (1 : Int32)) h63).bind fun v64 =>
  (ldI x0 (x3 + (2 : Int32)) h63).bind fun v65 =>
  (ldI x0 (x3 + (3 : Int32)) h63).bind fun v66 =>
  b2 (mX12_bar x2 v64 v65 v66 h63) fun v67 h68 =>
  if v62 = v67 then
  (mL_law_b1414 x0 x1 x2 x3 h68)
  else (xt (some ((0 : Int32), h68))),
  (ldI x0 (x3 + (1 : Int32)) h).bind fun v69 =>
  (ldI x0 (x3 + (2 : Int32)) h).bind fun v70 =>
  b2 (mX11_answer x1 v69 v70 h) fun v71 h72 =>
  (ldI x0 (x3 + (1 : Int32)) h72).bind fun v73 =>
  (ldI x0 (x3 + (2 : Int32)) h72).bind fun v74 =>
  b2 (mX12_answer x2 v73 v74 h72) fun v75 h76 =>
  if v71 = v75 then
  (mL_law_b1414 x0 x1 x2 x3 h76)
  else (xt (some ((0 : Int32), h76))),
  (ldI x0 (x3 + (1 : Int32)) h).bind fun v77 =>
  b2 (mX11_withdraw x1 v77 h) fun v78 h79 =>
  (ldI x0 (x3 + (1 : Int32)) h79).bind fun v80 =>
  b2 (mX12_withdraw x2 v80 h79) fun v81 h82 =>
  if v78 = v81 then
  (mL_law_b1414 x0 x1 x2 x3 h82)
  else (xt (some ((0 : Int32), h82))),
  b2 (mX11_close x1 h) fun v83 h84 =>
  b2 (mX12_close x2 h84) fun v85 h86 =>
  if v83 = v85 then
  (mL_law_b1414 x0 x1 x2 x3 h86)
  else (xt (some ((0 : Int32), h86))),
  (ldI x0 (x3 + (1 : Int32)) h).bind fun v87 =>
  (ldI x0 (x3 + (2 : Int32)) h).bind fun v88 =>
  if v88 = 0 then
  (mL_law_b534 x0 x1 x2 x3 x1 v87 (0 : Int32) h)
  else (mL_law_b534 x0 x1 x2 x3 x1 v87 (1 : Int32) h),
  (ldI x0 (x3 + (1 : Int32)) h).bind fun v95 =>
  (ldI x0 (x3 + (2 : Int32)) h).bind fun v96 =>
  (ldI x0 (x3 + (3 : Int32)) h).bind fun v97 =>
  b2 (mX11_say x1 v95 v96 v97 h) fun v98 h99 =>
  (ldI x0 (x3 + (1 : Int32)) h99).bind fun v100 =>
  (ldI x0 (x3 + (2 : Int32)) h99).bind fun v101 =>
  (ldI x0 (x3 + (3 : Int32)) h99).bind fun v102 =>
  b2 (mX12_say x2 v100 v101 v102 h99) fun v103 h104 =>
  if v98 = v103 then
  (mL_law_b1414 x0 x1 x2 x3 h104)
  else (xt (some ((0 : Int32), h104))),
  (ldI x0 (x3 + (1 : Int32)) h).bind fun v105 =>
  (ldI x0 (x3 + (2 : Int32)) h).bind fun v106 =>
  (ldI x0 (x3 + (3 : Int32)) h).bind fun v107 =>
  b2 (mX11_add x1 v105 v106 v107 h) fun v108 h109 =>
  (ldI x0 (x3 + (1 : Int32)) h109).bind fun v110 =>
  (ldI x0 (x3 + (2 : Int32)) h109).bind fun v111 =>
  (ldI x0 (x3 + (3 : Int32)) h109).bind fun v112 =>
  b2 (mX12_add x2 v110 v111 v112 h109) fun v113 h114 =>
  if v108 = v113 then
  (mL_law_b1414 x0 x1 x2 x3 h114)
  else (xt (some ((0 : Int32), h114))),
  (ldI x0 (x3 + (1 : Int32)) h).bind fun v115 =>
  b2 (mX11_strike x1 v115 h) fun v116 h117 =>
  (ldI x0 (x3 + (1 : Int32)) h117).bind fun v118 =>
  b2 (mX12_strike x2 v118 h117) fun v119 h120 =>
  if v116 = v119 then
  (mL_law_b1414 x0 x1 x2 x3 h120)
  else (xt (some ((0 : Int32), h120))),
  (ldI x0 (x3 + (1 : Int32)) h).bind fun v121 =>
  b2 (mX11_days x1 v121 h) fun v122 h123 =>
  (ldI x0 (x3 + (1 : Int32)) h123).bind fun v124 =>
  b2 (mX12_days x2 v124 h123) fun v125 h126 =>
  if v122 = v125 then
  (mL_law_b1414 x0 x1 x2 x3 h126)
  else (xt (some ((0 : Int32), h126))),
  b2 (mX11_undo x1 h) fun v127 h128 =>
  b2 (mX12_undo x2 h128) fun v129 h130 =>
  if v127 = v129 then
  (mL_law_b1414 x0 x1 x2 x3 h130)
  else (xt (some ((0 : Int32), h130))),
  (ldI x0 (x3 + (1 : Int32)) h).bind fun v131 =>
  b2 (mX11_keep x1 v131 h) fun v132 h133 =>
  (ldI x0 (x3 + (1 : Int32)) h133).bind fun v134 =>
  b2 (mX12_keep x2 v134 h133) fun v135 h136 =>
  if v132 = v135 then
  (mL_law_b1414 x0 x1 x2 x3 h136)
  else (xt (some ((0 : Int32), h136))),
  (ldI x0 (x3 + (1 : Int32)) h).bind fun v137 =>
  b2 (mX11_again x1 v137 h) fun v138 h139 =>
  (ldI x0 (x3 + (1 : Int32)) h139).bind fun v140 =>
  b2 (mX12_again x2 v140 h139) fun v141 h142 =>
  if v138 = v141 then
  (mL_law_b1414 x0 x1 x2 x3 h142)
  else (xt (some ((0 : Int32), h142))),
  (ldI x0 (x3 + (1 : Int32)) h).bind fun v143 =>
  b2 (mX11_worlds x1 v143 h) fun v144 h145 =>
  (ldI x0 (x3 + (1 : Int32)) h145).bind fun v146 =>
  (mX12_worlds x2 v146 h145).bind fun v147 =>
  if v144 = v147 then
  (mL_law_b1414 x0 x1 x2 x3 h145)
  else (xt (some ((0 : Int32), h145))),
  (ldI x0 (x3 + (1 : Int32)) h).bind fun v149 =>
  (ldI x0 (x3 + (2 : Int32)) h).bind fun v150 =>
  b2 (mX11_clash x1 v149 v150 h) fun v151 h152 =>
  (ldI x0 (x3 + (1 : Int32)) h152).bind fun v153 =>
  (ldI x0 (x3 + (2 : Int32)) h152).bind fun v154 =>
  b2 (mX12_clash x2 v153 v154 h152) fun v155 h156 =>
  if v151 = v155 then
  (mL_law_b1414 x0 x1 x2 x3 h156)
  else (xt (some ((0 : Int32), h156))),
  (ldI x0 (x3 + (1 : Int32)) h).bind fun v157 =>
  (ldI x0 (x3 + (2 : Int32)) h).bind fun v158 =>
  b2 (mX11_implied x1 v157 v158 h) fun v159 h160 =>
  (ldI x0 (x3 + (1 : Int32)) h160).bind fun v161 =>
  (ldI x0 (x3 + (2 : Int32)) h160).bind fun v162 =>
  (mX12_implied x2 v161 v162 h160).bind fun v163 =>
  if v159 = v163 then
  (mL_law_b1414 x0 x1 x2 x3 h160)
  else (xt (some ((0 : Int32), h160))),
  (ldI x0 (x3 + (1 : Int32)) h).bind fun v165 =>
  (ldI x0 (x3 + (2 : Int32)) h).bind fun v166 =>
  b2 (mX11_lacks x1 v165 v166 h) fun v167 h168 =>
  (ldI x0 (x3 + (1 : Int32)) h168).bind fun v169 =>
  (ldI x0 (x3 + (2 : Int32)) h168).bind fun v170 =>
  b2 (mX12_lacks x2 v169 v170 h168) fun v171 h172 =>
  if v167 = v171 then
  (mL_law_b1414 x0 x1 x2 x3 h172)
  else (xt (some ((0 : Int32), h172))),
  (ldI x0 (x3 + (1 : Int32)) h).bind fun v173 =>
  (ldI x0 (x3 + (2 : Int32)) h).bind fun v174 =>
  (mX11_grown x1 v173 v174 h).bind fun v175 =>
  (ldI x0 (x3 + (1 : Int32)) h).bind fun v177 =>
  (ldI x0 (x3 + (2 : Int32)) h).bind fun v178 =>
  (mX12_grown x2 v177 v178 h).bind fun v179 =>
  if v175 = v179 then
  (mL_law_b1414 x0 x1 x2 x3 h)
  else (xt (some ((0 : Int32), h))),
  (ldI x0 (x3 + (1 : Int32)) h).bind fun v181 =>
  b2 (mX11_issues x1 v181 h) fun v182 h183 =>
  (ldI x0 (x3 + (1 : Int32)) h183).bind fun v184 =>
  (mX12_issues x2 v184 h183).bind fun v185 =>
  if v182 = v185 then
  (mL_law_b1414 x0 x1 x2 x3 h183)
  else (xt (some ((0 : Int32), h183))),
  (ldI x0 (x3 + (1 : Int32)) h).bind fun v187 =>
  b2 (mX11_judged x1 v187 h) fun v188 h189 =>
  (ldI x0 (x3 + (1 : Int32)) h189).bind fun v190 =>
  b2 (mX12_judged x2 v190 h189) fun v191 h192 =>
  if v188 = v191 then
  (mL_law_b1414 x0 x1 x2 x3 h192)
  else (xt (some ((0 : Int32), h192))),
  (ldI x0 (x3 + (1 : Int32)) h).bind fun v193 =>
  (ldI x0 (x3 + (2 : Int32)) h).bind fun v194 =>
  b2 (mX11_tries x1 v193 v194 h) fun v195 h196 =>
  (ldI x0 (x3 + (1 : Int32)) h196).bind fun v197 =>
  (ldI x0 (x3 + (2 : Int32)) h196).bind fun v198 =>
  b2 (mX12_tries x2 v197 v198 h196) fun v199 h200 =>
  if v195 = v199 then
  (mL_law_b1414 x0 x1 x2 x3 h200)
  else (xt (some ((0 : Int32), h200))),
  (ldI x0 (x3 + (1 : Int32)) h).bind fun v201 =>
  (ldI x0 (x3 + (2 : Int32)) h).bind fun v202 =>
  b2 (mX11_chance x1 v201 v202 h) fun v203 h204 =>
  (ldI x0 (x3 + (1 : Int32)) h204).bind fun v205 =>
  (ldI x0 (x3 + (2 : Int32)) h204).bind fun v206 =>
  b2 (mX12_chance x2 v205 v206 h204) fun v207 h208 =>
  if v203 = v207 then
  (mL_law_b1414 x0 x1 x2 x3 h208)
  else (xt (some ((0 : Int32), h208))),
  (ldI x0 (x3 + (1 : Int32)) h).bind fun v209 =>
  b2 (mX11_award x1 v209 h) fun v210 h211 =>
  (ldI x0 (x3 + (1 : Int32)) h211).bind fun v212 =>
  b2 (mX12_award x2 v212 h211) fun v213 h214 =>
  if v210 = v213 then
  (mL_law_b1414 x0 x1 x2 x3 h214)
  else (xt (some ((0 : Int32), h214))),
  (ldI x0 (x3 + (1 : Int32)) h).bind fun v215 =>
  b2 (mX11_meant x1 v215 h) fun v216 h217 =>
  (ldI x0 (x3 + (1 : Int32)) h217).bind fun v218 =>
  b2 (mX12_meant x2 v218 h217) fun v219 h220 =>
  if (lg_cmp v216 v219) = 0 then
  (mL_law_b1414 x0 x1 x2 x3 h220)
  else (xt (some ((0 : Int32), h220))),
  b2 (mX11_outcomes x1 h) fun v221 h222 =>
  b2 (mX12_outcomes x2 h222) fun v223 h224 =>
  if v221 = v223 then
  (mL_law_b1414 x0 x1 x2 x3 h224)
  else (xt (some ((0 : Int32), h224))),
  (ldI x0 (x3 + (1 : Int32)) h).bind fun v225 =>
  (ldI x0 (x3 + (2 : Int32)) h).bind fun v226 =>
  b2 (mX11_outcome x1 v225 v226 h) fun v227 h228 =>
  (ldI x0 (x3 + (1 : Int32)) h228).bind fun v229 =>
  (ldI x0 (x3 + (2 : Int32)) h228).bind fun v230 =>
  b2 (mX12_outcome x2 v229 v230 h228) fun v231 h232 =>
  if v227 = v231 then
  (mL_law_b1414 x0 x1 x2 x3 h232)
  else (xt (some ((0 : Int32), h232))),
  (ldI x0 (x3 + (1 : Int32)) h).bind fun v233 =>
  (ldI x0 (x3 + (2 : Int32)) h).bind fun v234 =>
  if v234 = 0 then
  (mL_law_b1134 x0 x1 x2 x3 x1 v233 (0 : Int32) h)
  else (mL_law_b1134 x0 x1 x2 x3 x1 v233 (1 : Int32) h),
  (ldI x0 (x3 + (1 : Int32)) h).bind fun v241 =>
  (ldI x0 (x3 + (2 : Int32)) h).bind fun v242 =>
  if v242 = 0 then
  (mL_law_b1183 x0 x1 x2 x3 x1 v241 (0 : Int32) h)
  else (mL_law_b1183 x0 x1 x2 x3 x1 v241 (1 : Int32) h),
  (ldI x0 (x3 + (1 : Int32)) h).bind fun v253 =>
  (ldI x0 (x3 + (2 : Int32)) h).bind fun v254 =>
  b2 (mX11_duel x1 v253 v254 h) fun v255 h256 =>
  (ldI x0 (x3 + (1 : Int32)) h256).bind fun v257 =>
  (ldI x0 (x3 + (2 : Int32)) h256).bind fun v258 =>
  b2 (mX12_duel x2 v257 v258 h256) fun v259 h260 =>
  if v255 = v259 then
  (mL_law_b1414 x0 x1 x2 x3 h260)
  else (xt (some ((0 : Int32), h260))),
  (ldI x0 (x3 + (1 : Int32)) h).bind fun v261 =>
  (ldI x0 (x3 + (2 : Int32)) h).bind fun v262 =>
  (ldI x0 (x3 + (3 : Int32)) h).bind fun v263 =>
  b2 (mX11_turn x1 v261 v262 v263 h) fun v264 h265 =>
  (ldI x0 (x3 + (1 : Int32)) h265).bind fun v266 =>
  (ldI x0 (x3 + (2 : Int32)) h265).bind fun v267 =>
  (ldI x0 (x3 + (3 : Int32)) h265).bind fun v268 =>
  b2 (mX12_turn x2 v266 v267 v268 h265) fun v269 h270 =>
  if v264 = v269 then
  (mL_law_b1414 x0 x1 x2 x3 h270)
  else (xt (some ((0 : Int32), h270))),
  (ldI x0 (x3 + (1 : Int32)) h).bind fun v271 =>
  b2 (mX11_together x1 v271 h) fun v272 h273 =>
  (ldI x0 (x3 + (1 : Int32)) h273).bind fun v274 =>
  (mX12_together x2 v274 h273).bind fun v275 =>
  if v272 = v275 then
  (mL_law_b1414 x0 x1 x2 x3 h273)
  else (xt (some ((0 : Int32), h273))),
  (ldI x0 (x3 + (1 : Int32)) h).bind fun v277 =>
  b2 (mX11_elect x1 v277 h) fun v278 h279 =>
  (ldI x0 (x3 + (1 : Int32)) h279).bind fun v280 =>
  b2 (mX12_elect x2 v280 h279) fun v281 h282 =>
  if v278 = v281 then
  (mL_law_b1414 x0 x1 x2 x3 h282)
  else (xt (some ((0 : Int32), h282))),
  b2 (mX11_ask x1 h) fun v283 h284 =>
  b2 (mX12_ask x2 h284) fun v285 h286 =>
  if v283 = v285 then
  (mL_law_b1414 x0 x1 x2 x3 h286)
  else (xt (some ((0 : Int32), h286))),
  (ldI x0 (x3 + (1 : Int32)) h).bind fun v287 =>
  (mX11_asked x1 v287 h).bind fun v288 =>
  (ldI x0 (x3 + (1 : Int32)) h).bind fun v290 =>
  (mX12_asked x2 v290 h).bind fun v291 =>
  if v288 = v291 then
  (mL_law_b1414 x0 x1 x2 x3 h)
  else (xt (some ((0 : Int32), h))),
  (ldI x0 (x3 + (1 : Int32)) h).bind fun v293 =>
  b2 (mX11_count x1 v293 h) fun v294 h295 =>
  (ldI x0 (x3 + (1 : Int32)) h295).bind fun v296 =>
  b2 (mX12_count x2 v296 h295) fun v297 h298 =>
  if v294 = v297 then
  (mL_law_b1414 x0 x1 x2 x3 h298)
  else (xt (some ((0 : Int32), h298)))] (mL_law_b1414 x0 x1 x2 x3 h))
noncomputable def mL_law_l18 (x0 : Nat) (x1 : Nat) (x2 : Nat) (x3 : Int32) (h : Hp) : Option (Int32 × Hp) :=
  lp (fun s : (Int32 × Hp) => mL_law_l18f x0 x1 x2 s.1 s.2) (x3, h)
noncomputable def mL_law (x0 : Nat) (h : Hp) : Option (Int32 × Hp) :=
  b2 (newO 11 18 h) fun v2 h1 =>
  (mX11_init v2 h1).bind fun h4 =>
  b2 (newO 12 42 h4) fun v6 h5 =>
  (mX12_init v6 h5).bind fun h8 =>
  mL_law_l18 x0 v2 v6 (0 : Int32) h8
