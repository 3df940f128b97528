noncomputable def mX11_copyRow_l2f (x0 : Nat) (x1 : Nat) (x2 : Int32) (h : Hp) : Option ((Int32 × Hp) ⊕ Hp) :=
  (aLen x0 h).bind fun v1 =>
  if x2 < v1 then
  ((aLen x1 h).bind fun v2 =>
  if x2 < v2 then
  ((ldI x0 x2 h).bind fun v3 =>
  (stI x1 x2 v3 h).bind fun h4 =>
  some (.inl ((x2 + (1 : Int32)), h4)))
  else (xt (some h)))
  else (xt (some h))
noncomputable def mX11_copyRow_l2 (x0 : Nat) (x1 : Nat) (x2 : Int32) (h : Hp) : Option Hp :=
  lp (fun s : (Int32 × Hp) => mX11_copyRow_l2f x0 x1 s.1 s.2) (x2, h)
noncomputable def mX11_copyRow (x0 : Nat) (x1 : Nat) (h : Hp) : Option Hp :=
  mX11_copyRow_l2 x0 x1 (0 : Int32) h

noncomputable def mX5_copy (x0 : Nat) (x1 : Nat) (h : Hp) : Option Hp :=
  if (hpS h x0).1 = 6 then
  (gI 5 0 x1 h).bind fun v1 =>
  (sI 5 0 x0 v1 h).bind fun h2 =>
  (gI 5 1 x1 h2).bind fun v3 =>
  (sZ 5 1 x0 v3 h2).bind fun h4 =>
  (gI 5 2 x1 h4).bind fun v5 =>
  (sI 5 2 x0 v5 h4).bind fun h6 =>
  (gI 5 3 x1 h6).bind fun v7 =>
  (sI 5 3 x0 v7 h6).bind fun h8 =>
  (gI 5 4 x1 h8).bind fun v9 =>
  (sI 5 4 x0 v9 h8).bind fun h10 =>
  (gI 5 5 x1 h10).bind fun v11 =>
  (sI 5 5 x0 v11 h10).bind fun h12 =>
  (gI 5 6 x1 h12).bind fun v13 =>
  (sI 5 6 x0 v13 h12).bind fun h14 =>
  (gI 5 7 x1 h14).bind fun v15 =>
  (sI 5 7 x0 v15 h14).bind fun h16 =>
  (gI 5 8 x1 h16).bind fun v17 =>
  (sI 5 8 x0 v17 h16).bind fun h18 =>
  (gR 5 9 x1 h18).bind fun v19 =>
  (gR 5 9 x0 h18).bind fun v20 =>
  (mX11_copyRow v19 v20 h18).bind fun h22 =>
  (gR 5 10 x1 h22).bind fun v23 =>
  (gR 5 10 x0 h22).bind fun v24 =>
  (mX11_copyRow v23 v24 h22).bind fun h26 =>
  (gR 5 11 x1 h26).bind fun v27 =>
  (gR 5 11 x0 h26).bind fun v28 =>
  (mX11_copyRow v27 v28 h26).bind fun h30 =>
  (gR 5 12 x1 h30).bind fun v31 =>
  (gR 5 12 x0 h30).bind fun v32 =>
  (mX11_copyRow v31 v32 h30).bind fun h34 =>
  (gR 5 13 x1 h34).bind fun v35 =>
  (gR 5 13 x0 h34).bind fun v36 =>
  (mX11_copyRow v35 v36 h34).bind fun h38 =>
  (gR 5 14 x1 h38).bind fun v39 =>
  (gR 5 14 x0 h38).bind fun v40 =>
  (mX11_copyRow v39 v40 h38).bind fun h42 =>
  some h42
  else none

noncomputable def mX11_has (x0 : Int32) (x1 : Int32) : Option Int32 :=
  if ((x0 >>> (x1 &&& 31)) &&& (1 : Int32)) = 0 then
  (some (0 : Int32))
  else (some (1 : Int32))

noncomputable def mX11_wipe_l2f (x0 : Nat) (x1 : Int32) (h : Hp) : Option ((Int32 × Hp) ⊕ Hp) :=
  (aLen x0 h).bind fun v1 =>
  if x1 < v1 then
  ((stI x0 x1 (0 : Int32) h).bind fun h2 =>
  some (.inl ((x1 + (1 : Int32)), h2)))
  else (xt (some h))
noncomputable def mX11_wipe_l2 (x0 : Nat) (x1 : Int32) (h : Hp) : Option Hp :=
  lp (fun s : (Int32 × Hp) => mX11_wipe_l2f x0 s.1 s.2) (x1, h)
noncomputable def mX11_wipe (x0 : Nat) (h : Hp) : Option Hp :=
  mX11_wipe_l2 x0 (0 : Int32) h

noncomputable def mX10_fill_l2f (x0 : Nat) (x1 : Int32) (h : Hp) : Option ((Int32 × Hp) ⊕ Hp) :=
  (gR 10 0 x0 h).bind fun v1 =>
  (aLen v1 h).bind fun v2 =>
  if x1 < v2 then
  ((gR 10 0 x0 h).bind fun v3 =>
  (stL v3 x1 (-1 : Int64) h).bind fun h4 =>
  some (.inl ((x1 + (1 : Int32)), h4)))
  else (xt (some h))
noncomputable def mX10_fill_l2 (x0 : Nat) (x1 : Int32) (h : Hp) : Option Hp :=
  lp (fun s : (Int32 × Hp) => mX10_fill_l2f x0 s.1 s.2) (x1, h)
noncomputable def mX10_fill (x0 : Nat) (h : Hp) : Option Hp :=
  if (hpS h x0).1 = 11 then
  mX10_fill_l2 x0 (0 : Int32) h
  else none

noncomputable def mX11_at (x0 : Nat) (x1 : Int32) (h : Hp) : Option Int32 :=
  if x1 < 0 then
  (some (0 : Int32))
  else ((aLen x0 h).bind fun v1 =>
  if x1 < v1 then
  ((ldI x0 x1 h).bind fun v2 =>
  some v2)
  else (some (0 : Int32)))

noncomputable def mX11_longAt (x0 : Nat) (x1 : Int32) (h : Hp) : Option Int64 :=
  if x1 < 0 then
  (some (0 : Int64))
  else ((aLen x0 h).bind fun v1 =>
  if x1 < v1 then
  ((ldL x0 x1 h).bind fun v2 =>
  some v2)
  else (some (0 : Int64)))

noncomputable def mX11_putLong (x0 : Nat) (x1 : Int32) (x2 : Int64) (h : Hp) : Option Hp :=
  if x1 < 0 then
  (some h)
  else ((aLen x0 h).bind fun v1 =>
  if x1 < v1 then
  ((stL x0 x1 x2 h).bind fun h2 =>
  some h2)
  else (some h))

noncomputable def mX11_needSlot (x0 : Int32) (x1 : Int32) : Option Int32 :=
  some (((4 : Int32) * x0) + x1)

noncomputable def mX10_and_l2f (x0 : Nat) (x1 : Nat) (x2 : Int32) (h : Hp) : Option ((Int32 × Hp) ⊕ Hp) :=
  (gR 10 0 x0 h).bind fun v1 =>
  (aLen v1 h).bind fun v2 =>
  if x2 < v2 then
  ((gR 10 0 x1 h).bind fun v3 =>
  (aLen v3 h).bind fun v4 =>
  if x2 < v4 then
  ((gR 10 0 x0 h).bind fun v5 =>
  (ldL v5 x2 h).bind fun v6 =>
  (gR 10 0 x1 h).bind fun v7 =>
  (ldL v7 x2 h).bind fun v8 =>
  (stL v5 x2 (v6 &&& v8) h).bind fun h9 =>
  some (.inl ((x2 + (1 : Int32)), h9)))
  else (xt (some h)))
  else (xt (some h))
noncomputable def mX10_and_l2 (x0 : Nat) (x1 : Nat) (x2 : Int32) (h : Hp) : Option Hp :=
  lp (fun s : (Int32 × Hp) => mX10_and_l2f x0 x1 s.1 s.2) (x2, h)
noncomputable def mX10_and (x0 : Nat) (x1 : Nat) (h : Hp) : Option Hp :=
  if (hpS h x0).1 = 11 then
  mX10_and_l2 x0 x1 (0 : Int32) h
  else none

noncomputable def mX10_minus_l2f (x0 : Nat) (x1 : Nat) (x2 : Int32) (h : Hp) : Option ((Int32 × Hp) ⊕ Hp) :=
  (gR 10 0 x0 h).bind fun v1 =>
  (aLen v1 h).bind fun v2 =>
  if x2 < v2 then
  ((gR 10 0 x1 h).bind fun v3 =>
  (aLen v3 h).bind fun v4 =>
  if x2 < v4 then
  ((gR 10 0 x0 h).bind fun v5 =>
  (ldL v5 x2 h).bind fun v6 =>
  (gR 10 0 x1 h).bind fun v7 =>
  (ldL v7 x2 h).bind fun v8 =>
  (stL v5 x2 (v6 &&& (v8 ^^^ (-1 : Int64))) h).bind fun h9 =>
  some (.inl ((x2 + (1 : Int32)), h9)))
  else (xt (some h)))
  else (xt (some h))
noncomputable def mX10_minus_l2 (x0 : Nat) (x1 : Nat) (x2 : Int32) (h : Hp) : Option Hp :=
  lp (fun s : (Int32 × Hp) => mX10_minus_l2f x0 x1 s.1 s.2) (x2, h)
noncomputable def mX10_minus (x0 : Nat) (x1 : Nat) (h : Hp) : Option Hp :=
  if (hpS h x0).1 = 11 then
  mX10_minus_l2 x0 x1 (0 : Int32) h
  else none

noncomputable def mX11_put (x0 : Nat) (x1 : Int32) (x2 : Int32) (h : Hp) : Option Hp :=
  if x1 < 0 then
  (some h)
  else ((aLen x0 h).bind fun v1 =>
  if x1 < v1 then
  ((stI x0 x1 x2 h).bind fun h2 =>
  some h2)
  else (some h))

noncomputable def mX10_within_l2f (x0 : Nat) (x1 : Nat) (h : Hp) (x2 : Int32) : Option (Int32 ⊕ Int32) :=
  (gR 10 0 x0 h).bind fun v1 =>
  (aLen v1 h).bind fun v2 =>
  if x2 < v2 then
  ((gR 10 0 x1 h).bind fun v3 =>
  (aLen v3 h).bind fun v4 =>
  if x2 < v4 then
  ((gR 10 0 x0 h).bind fun v5 =>
  (ldL v5 x2 h).bind fun v6 =>
  (gR 10 0 x1 h).bind fun v7 =>
  (ldL v7 x2 h).bind fun v8 =>
  if (lg_cmp (v6 &&& (v8 ^^^ (-1 : Int64))) (0 : Int64)) = 0 then
  (some (.inl (x2 + (1 : Int32))))
  else (xt (some (0 : Int32))))
  else (xt (some (1 : Int32))))
  else (xt (some (1 : Int32)))
noncomputable def mX10_within_l2 (x0 : Nat) (x1 : Nat) (x2 : Int32) (h : Hp) : Option Int32 :=
  lp (fun s : Int32 => mX10_within_l2f x0 x1 h s) x2
noncomputable def mX10_within (x0 : Nat) (x1 : Nat) (h : Hp) : Option Int32 :=
  if (hpS h x0).1 = 11 then
  mX10_within_l2 x0 x1 (0 : Int32) h
  else none

noncomputable def mX10_meets_l2f (x0 : Nat) (x1 : Nat) (h : Hp) (x2 : Int32) : Option (Int32 ⊕ Int32) :=
  (gR 10 0 x0 h).bind fun v1 =>
  (aLen v1 h).bind fun v2 =>
  if x2 < v2 then
  ((gR 10 0 x1 h).bind fun v3 =>
  (aLen v3 h).bind fun v4 =>
  if x2 < v4 then
  ((gR 10 0 x0 h).bind fun v5 =>
  (ldL v5 x2 h).bind fun v6 =>
  (gR 10 0 x1 h).bind fun v7 =>
  (ldL v7 x2 h).bind fun v8 =>
  if (lg_cmp (v6 &&& v8) (0 : Int64)) = 0 then
  (some (.inl (x2 + (1 : Int32))))
  else (xt (some (1 : Int32))))
  else (xt (some (0 : Int32))))
  else (xt (some (0 : Int32)))
noncomputable def mX10_meets_l2 (x0 : Nat) (x1 : Nat) (x2 : Int32) (h : Hp) : Option Int32 :=
  lp (fun s : Int32 => mX10_meets_l2f x0 x1 h s) x2
noncomputable def mX10_meets (x0 : Nat) (x1 : Nat) (h : Hp) : Option Int32 :=
  if (hpS h x0).1 = 11 then
  mX10_meets_l2 x0 x1 (0 : Int32) h
  else none

noncomputable def mX10_holds (x0 : Nat) (x1 : Int32) (h : Hp) : Option Int32 :=
  if (hpS h x0).1 = 11 then
  if (x1 >>> ((6 : Int32) &&& 31)) < 0 then
  (some (0 : Int32))
  else ((gR 10 0 x0 h).bind fun v1 =>
  (aLen v1 h).bind fun v2 =>
  if (x1 >>> ((6 : Int32) &&& 31)) < v2 then
  ((gR 10 0 x0 h).bind fun v3 =>
  (ldL v3 (x1 >>> ((6 : Int32) &&& 31)) h).bind fun v4 =>
  if (lg_cmp ((ushrL v4 (x1 &&& (63 : Int32))) &&& (1 : Int64)) (0 : Int64)) = 0 then
  (some (0 : Int32))
  else (some (1 : Int32)))
  else (some (0 : Int32)))
  else none

noncomputable def mX5_clear (x0 : Nat) (h : Hp) : Option Hp :=
  if (hpS h x0).1 = 6 then
  (sI 5 0 x0 (0 : Int32) h).bind fun h1 =>
  (sZ 5 1 x0 (0 : Int32) h1).bind fun h2 =>
  (sI 5 2 x0 (0 : Int32) h2).bind fun h3 =>
  (sI 5 3 x0 (0 : Int32) h3).bind fun h4 =>
  (sI 5 4 x0 (0 : Int32) h4).bind fun h5 =>
  (sI 5 5 x0 (0 : Int32) h5).bind fun h6 =>
  (sI 5 6 x0 (0 : Int32) h6).bind fun h7 =>
  (sI 5 7 x0 (0 : Int32) h7).bind fun h8 =>
  (sI 5 8 x0 (0 : Int32) h8).bind fun h9 =>
  some h9
  else none

noncomputable def mJ13_bitCount_95d88_b55 (x0 : Int64) : Option Int32 :=
  some (x0.toInt32 &&& (127 : Int32))
noncomputable def mJ13_bitCount_95d88_b41 (x0 : Int64) : Option Int32 :=
  mJ13_bitCount_95d88_b55 ((x0 + (ushrL x0 (16 : Int32))) + (ushrL (x0 + (ushrL x0 (16 : Int32))) (32 : Int32)))
noncomputable def mJ13_bitCount_95d88_b24 (x0 : Int64) : Option Int32 :=
  mJ13_bitCount_95d88_b41 (((x0 + (ushrL x0 (4 : Int32))) &&& (1085102592571150095 : Int64)) + (ushrL ((x0 + (ushrL x0 (4 : Int32))) &&& (1085102592571150095 : Int64)) (8 : Int32)))
noncomputable def mJ13_bitCount_95d88 (x0 : Int64) : Option Int32 :=
  mJ13_bitCount_95d88_b24 (((x0 - ((ushrL x0 (1 : Int32)) &&& (6148914691236517205 : Int64))) &&& (3689348814741910323 : Int64)) + ((ushrL (x0 - ((ushrL x0 (1 : Int32)) &&& (6148914691236517205 : Int64))) (2 : Int32)) &&& (3689348814741910323 : Int64)))

noncomputable def mX10_size_l4f (x0 : Nat) (h : Hp) (x1 : Int32) (x2 : Int32) : Option ((Int32 × Int32) ⊕ Int32) :=
  (gR 10 0 x0 h).bind fun v1 =>
  (aLen v1 h).bind fun v2 =>
  if x2 < v2 then
  ((gR 10 0 x0 h).bind fun v3 =>
  (ldL v3 x2 h).bind fun v4 =>
  (mJ13_bitCount_95d88 v4).bind fun v5 =>
  some (.inl ((x1 + v5), (x2 + (1 : Int32)))))
  else (xt (some x1))
noncomputable def mX10_size_l4 (x0 : Nat) (x1 : Int32) (x2 : Int32) (h : Hp) : Option Int32 :=
  lp (fun s : (Int32 × Int32) => mX10_size_l4f x0 h s.1 s.2) (x1, x2)
noncomputable def mX10_size (x0 : Nat) (h : Hp) : Option Int32 :=
  if (hpS h x0).1 = 11 then
  mX10_size_l4 x0 (0 : Int32) (0 : Int32) h
  else none

noncomputable def mX10_isEmpty (x0 : Nat) (h : Hp) : Option Int32 :=
  if (hpS h x0).1 = 11 then
  (mX10_size x0 h).bind fun v1 =>
  if v1 = 0 then
  (some (1 : Int32))
  else (some (0 : Int32))
  else none

noncomputable def mX5_file (x0 : Nat) (x1 : Int32) (x2 : Int32) (x3 : Int32) (h : Hp) : Option (Int32 × Hp) :=
  if (hpS h x0).1 = 6 then
  (gI 5 2 x0 h).bind fun v1 =>
  (gR 5 9 x0 h).bind fun v2 =>
  (mX11_put v2 v1 x1 h).bind fun h4 =>
  (gR 5 10 x0 h4).bind fun v5 =>
  (mX11_put v5 v1 x2 h4).bind fun h7 =>
  (gR 5 11 x0 h7).bind fun v8 =>
  (mX11_put v8 v1 x3 h7).bind fun h10 =>
  (gR 5 12 x0 h10).bind fun v11 =>
  (gI 5 0 x0 h10).bind fun v12 =>
  (mX11_put v11 v1 v12 h10).bind fun h14 =>
  (gR 5 13 x0 h14).bind fun v15 =>
  (mX11_put v15 v1 (0 : Int32) h14).bind fun h17 =>
  (gR 5 14 x0 h17).bind fun v18 =>
  (mX11_put v18 v1 (0 : Int32) h17).bind fun h20 =>
  (gI 5 2 x0 h20).bind fun v21 =>
  (sI 5 2 x0 (v21 + (1 : Int32)) h20).bind fun h22 =>
  some (v1, h22)
  else none

noncomputable def mX5_tell_b82 (t0 : Nat) (t1 : Int32) (t2 : Int32) (h : Hp) : Option Hp :=
  (mX11_put t0 t1 t2 h).bind fun h12 =>
  some h12
noncomputable def mX5_tell_b42 (x0 : Nat) (x1 : Int32) (x3 : Int32) (x4 : Int32) (t0 : Nat) (t1 : Int32) (t2 : Int32) (h : Hp) : Option Hp :=
  (mX11_put t0 t1 t2 h).bind fun h6 =>
  (gR 5 14 x0 h6).bind fun v7 =>
  if x3 = (1 : Int32) then
  ((gR 5 14 x0 h6).bind fun v13 =>
  (mX11_at v13 x1 h6).bind fun v14 =>
  mX5_tell_b82 v7 x1 (v14 ||| x4) h6)
  else ((gR 5 14 x0 h6).bind fun v8 =>
  (mX11_at v8 x1 h6).bind fun v9 =>
  mX5_tell_b82 v7 x1 (v9 &&& (x4 ^^^ (-1 : Int32))) h6)
noncomputable def mX5_tell (x0 : Nat) (x1 : Int32) (x2 : Int32) (x3 : Int32) (h : Hp) : Option Hp :=
  if (hpS h x0).1 = 6 then
  (gR 5 13 x0 h).bind fun v1 =>
  if x3 < (2 : Int32) then
  ((gR 5 13 x0 h).bind fun v16 =>
  (mX11_at v16 x1 h).bind fun v17 =>
  mX5_tell_b42 x0 x1 x3 ((1 : Int32) <<< (x2 &&& 31)) v1 x1 (v17 ||| ((1 : Int32) <<< (x2 &&& 31))) h)
  else ((gR 5 13 x0 h).bind fun v2 =>
  (mX11_at v2 x1 h).bind fun v3 =>
  mX5_tell_b42 x0 x1 x3 ((1 : Int32) <<< (x2 &&& 31)) v1 x1 (v3 &&& (((1 : Int32) <<< (x2 &&& 31)) ^^^ (-1 : Int32))) h)
  else none

noncomputable def mX3_start (x0 : Nat) (x1 : Int32) (h : Hp) : Option Hp :=
  if (hpS h x0).1 = 4 then
  (sI 3 0 x0 x1 h).bind fun h1 =>
  (sI 3 1 x0 (0 : Int32) h1).bind fun h2 =>
  (sI 3 2 x0 (0 : Int32) h2).bind fun h3 =>
  (sI 3 3 x0 (0 : Int32) h3).bind fun h4 =>
  (sZ 3 4 x0 (0 : Int32) h4).bind fun h5 =>
  some h5
  else none

noncomputable def mJ6_bitCount_0f7a4_b41 (x0 : Int32) : Option Int32 :=
  some ((x0 + (ushrI x0 (16 : Int32))) &&& (63 : Int32))
noncomputable def mJ6_bitCount_0f7a4_b24 (x0 : Int32) : Option Int32 :=
  mJ6_bitCount_0f7a4_b41 (((x0 + (ushrI x0 (4 : Int32))) &&& (252645135 : Int32)) + (ushrI ((x0 + (ushrI x0 (4 : Int32))) &&& (252645135 : Int32)) (8 : Int32)))
noncomputable def mJ6_bitCount_0f7a4 (x0 : Int32) : Option Int32 :=
  mJ6_bitCount_0f7a4_b24 (((x0 - ((ushrI x0 (1 : Int32)) &&& (1431655765 : Int32))) &&& (858993459 : Int32)) + ((ushrI (x0 - ((ushrI x0 (1 : Int32)) &&& (1431655765 : Int32))) (2 : Int32)) &&& (858993459 : Int32)))

noncomputable def mX3_nextFacts_b44 (x0 : Nat) (x1 : Int32) (h : Hp) : Option ((Int32 × Hp) ⊕ (Int32 × Hp)) :=
  (gI 3 1 x0 h).bind fun v6 =>
  (gI 3 0 x0 h).bind fun v7 =>
  (mJ6_bitCount_0f7a4 v7).bind fun v8 =>
  if v8 < v6 then
  (xt (some ((0 : Int32), h)))
  else ((gI 3 2 x0 h).bind fun v10 =>
  (mJ6_bitCount_0f7a4 v10).bind fun v11 =>
  (gI 3 1 x0 h).bind fun v13 =>
  if v11 = v13 then
  (xt (some ((1 : Int32), h)))
  else (some (.inl ((x1 + (1 : Int32)), h))))
noncomputable def mX3_nextFacts_l2f (x0 : Nat) (x1 : Int32) (h : Hp) : Option ((Int32 × Hp) ⊕ (Int32 × Hp)) :=
  if x1 < (2304 : Int32) then
  ((gI 3 2 x0 h).bind fun v1 =>
  (gI 3 0 x0 h).bind fun v2 =>
  (gI 3 0 x0 h).bind fun v3 =>
  (sI 3 2 x0 ((v1 - v2) &&& v3) h).bind fun h4 =>
  (gI 3 2 x0 h4).bind fun v5 =>
  if v5 = 0 then
  ((gI 3 1 x0 h4).bind fun v14 =>
  (sI 3 1 x0 (v14 + (1 : Int32)) h4).bind fun h15 =>
  mX3_nextFacts_b44 x0 x1 h15)
  else (mX3_nextFacts_b44 x0 x1 h4))
  else (xt (some ((0 : Int32), h)))
noncomputable def mX3_nextFacts_l2 (x0 : Nat) (x1 : Int32) (h : Hp) : Option (Int32 × Hp) :=
  lp (fun s : (Int32 × Hp) => mX3_nextFacts_l2f x0 s.1 s.2) (x1, h)
noncomputable def mX3_nextFacts (x0 : Nat) (h : Hp) : Option (Int32 × Hp) :=
  if (hpS h x0).1 = 4 then
  mX3_nextFacts_l2 x0 (0 : Int32) h
  else none

noncomputable def mX3_more (x0 : Nat) (h : Hp) : Option (Int32 × Hp) :=
  if (hpS h x0).1 = 4 then
  (gI 3 4 x0 h).bind fun v1 =>
  if v1 = 0 then
  ((sZ 3 4 x0 (1 : Int32) h).bind fun h11 =>
  some ((1 : Int32), h11))
  else ((gI 3 3 x0 h).bind fun v2 =>
  (gI 3 2 x0 h).bind fun v3 =>
  if v2 = v3 then
  ((sI 3 3 x0 (0 : Int32) h).bind fun h4 =>
  b2 (mX3_nextFacts x0 h4) fun v5 h6 =>
  (z01 v5).bind fun v => some (v, h6))
  else ((gI 3 3 x0 h).bind fun v7 =>
  (gI 3 2 x0 h).bind fun v8 =>
  (gI 3 2 x0 h).bind fun v9 =>
  (sI 3 3 x0 ((v7 - v8) &&& v9) h).bind fun h10 =>
  some ((1 : Int32), h10)))
  else none

noncomputable def mX5_known (x0 : Nat) (h : Hp) : Option Int32 :=
  if (hpS h x0).1 = 6 then
  (gI 5 4 x0 h).bind fun v1 =>
  (gI 5 7 x0 h).bind fun v2 =>
  some (v1 ||| v2)
  else none

noncomputable def mX5_answered (x0 : Nat) (h : Hp) : Option Int32 :=
  if (hpS h x0).1 = 6 then
  (gI 5 4 x0 h).bind fun v1 =>
  (gI 5 5 x0 h).bind fun v2 =>
  (gI 5 6 x0 h).bind fun v3 =>
  (gI 5 7 x0 h).bind fun v4 =>
  (mJ6_bitCount_0f7a4 (((v1 ||| v2) ||| v3) ||| v4)).bind fun v5 =>
  some v5
  else none

noncomputable def mX5_howIs (x0 : Nat) (x1 : Int32) (h : Hp) : Option Int32 :=
  if (hpS h x0).1 = 6 then
  (gI 5 4 x0 h).bind fun v1 =>
  (mX11_has v1 x1).bind fun v2 =>
  if v2 = 0 then
  ((gI 5 5 x0 h).bind fun v4 =>
  (mX11_has v4 x1).bind fun v5 =>
  if v5 = 0 then
  ((gI 5 6 x0 h).bind fun v7 =>
  (mX11_has v7 x1).bind fun v8 =>
  if v8 = 0 then
  ((gI 5 7 x0 h).bind fun v10 =>
  (mX11_has v10 x1).bind fun v11 =>
  if v11 = 0 then
  (some (0 : Int32))
  else (some (4 : Int32)))
  else (some (3 : Int32)))
  else (some (2 : Int32)))
  else (some (1 : Int32))
  else none

noncomputable def mX5_become_b163 (t0 : Nat) (t1 : Int32) (h : Hp) : Option Hp :=
  (sI 5 8 t0 t1 h).bind fun h10 =>
  some h10
noncomputable def mX5_become_b136 (x0 : Nat) (x4 : Int32) (t0 : Int32) (h : Hp) : Option Hp :=
  if t0 = 0 then
  ((gI 5 8 x0 h).bind fun v9 =>
  mX5_become_b163 x0 (v9 &&& (x4 ^^^ (-1 : Int32))) h)
  else ((gI 5 8 x0 h).bind fun v11 =>
  mX5_become_b163 x0 (v11 ||| x4) h)
noncomputable def mX5_become_b135 (x0 : Nat) (x4 : Int32) (h : Hp) : Option Hp :=
  mX5_become_b136 x0 x4 (0 : Int32) h
noncomputable def mX5_become_b131 (x0 : Nat) (x4 : Int32) (h : Hp) : Option Hp :=
  mX5_become_b136 x0 x4 (1 : Int32) h
noncomputable def mX5_become_b114 (x0 : Nat) (x2 : Int32) (x3 : Int32) (x4 : Int32) (t0 : Nat) (t1 : Int32) (h : Hp) : Option Hp :=
  (sI 5 7 t0 t1 h).bind fun h8 =>
  if x3 = 0 then
  (mX5_become_b135 x0 x4 h8)
  else (if x2 = (1 : Int32) then
  (mX5_become_b131 x0 x4 h8)
  else (if x2 = (4 : Int32) then
  (mX5_become_b131 x0 x4 h8)
  else (mX5_become_b135 x0 x4 h8)))
noncomputable def mX5_become_b86 (x0 : Nat) (x2 : Int32) (x3 : Int32) (x4 : Int32) (t0 : Nat) (t1 : Int32) (h : Hp) : Option Hp :=
  (sI 5 6 t0 t1 h).bind fun h6 =>
  if x2 = (4 : Int32) then
  ((gI 5 7 x0 h6).bind fun v12 =>
  mX5_become_b114 x0 x2 x3 x4 x0 (v12 ||| x4) h6)
  else ((gI 5 7 x0 h6).bind fun v7 =>
  mX5_become_b114 x0 x2 x3 x4 x0 (v7 &&& (x4 ^^^ (-1 : Int32))) h6)
noncomputable def mX5_become_b58 (x0 : Nat) (x2 : Int32) (x3 : Int32) (x4 : Int32) (t0 : Nat) (t1 : Int32) (h : Hp) : Option Hp :=
  (sI 5 5 t0 t1 h).bind fun h4 =>
  if x2 = (3 : Int32) then
  ((gI 5 6 x0 h4).bind fun v13 =>
  mX5_become_b86 x0 x2 x3 x4 x0 (v13 ||| x4) h4)
  else ((gI 5 6 x0 h4).bind fun v5 =>
  mX5_become_b86 x0 x2 x3 x4 x0 (v5 &&& (x4 ^^^ (-1 : Int32))) h4)
noncomputable def mX5_become_b30 (x0 : Nat) (x2 : Int32) (x3 : Int32) (x4 : Int32) (t0 : Nat) (t1 : Int32) (h : Hp) : Option Hp :=
  (sI 5 4 t0 t1 h).bind fun h2 =>
  if x2 = (2 : Int32) then
  ((gI 5 5 x0 h2).bind fun v14 =>
  mX5_become_b58 x0 x2 x3 x4 x0 (v14 ||| x4) h2)
  else ((gI 5 5 x0 h2).bind fun v3 =>
  mX5_become_b58 x0 x2 x3 x4 x0 (v3 &&& (x4 ^^^ (-1 : Int32))) h2)
noncomputable def mX5_become (x0 : Nat) (x1 : Int32) (x2 : Int32) (x3 : Int32) (h : Hp) : Option Hp :=
  if (hpS h x0).1 = 6 then
  if x2 = (1 : Int32) then
  ((gI 5 4 x0 h).bind fun v15 =>
  mX5_become_b30 x0 x2 x3 ((1 : Int32) <<< (x1 &&& 31)) x0 (v15 ||| ((1 : Int32) <<< (x1 &&& 31))) h)
  else ((gI 5 4 x0 h).bind fun v1 =>
  mX5_become_b30 x0 x2 x3 ((1 : Int32) <<< (x1 &&& 31)) x0 (v1 &&& (((1 : Int32) <<< (x1 &&& 31)) ^^^ (-1 : Int32))) h)
  else none

noncomputable def mX5_sayers_b33 (x0 : Nat) (x1 : Int32) (x2 : Int32) (x3 : Int32) (h : Hp) : Option ((Int32 × Int32) ⊕ Int32) :=
  some (.inl (x2, (x3 + (1 : Int32))))
noncomputable def mX5_sayers_l4f (x0 : Nat) (x1 : Int32) (h : Hp) (x2 : Int32) (x3 : Int32) : Option ((Int32 × Int32) ⊕ Int32) :=
  (gI 5 2 x0 h).bind fun v1 =>
  if x3 < v1 then
  ((gR 5 13 x0 h).bind fun v2 =>
  (mX11_at v2 x3 h).bind fun v3 =>
  (mX11_has v3 x1).bind fun v5 =>
  if v5 = 0 then
  (mX5_sayers_b33 x0 x1 x2 x3 h)
  else (mX5_sayers_b33 x0 x1 (x2 ||| ((1 : Int32) <<< (x3 &&& 31))) x3 h))
  else (xt (some x2))
noncomputable def mX5_sayers_l4 (x0 : Nat) (x1 : Int32) (x2 : Int32) (x3 : Int32) (h : Hp) : Option Int32 :=
  lp (fun s : (Int32 × Int32) => mX5_sayers_l4f x0 x1 h s.1 s.2) (x2, x3)
noncomputable def mX5_sayers (x0 : Nat) (x1 : Int32) (h : Hp) : Option Int32 :=
  if (hpS h x0).1 = 6 then
  mX5_sayers_l4 x0 x1 (0 : Int32) (0 : Int32) h
  else none

noncomputable def mX5_firstSayer_b38 (x0 : Nat) (x1 : Int32) (x2 : Int32) (h : Hp) : Option (Int32 ⊕ Int32) :=
  some (.inl (x2 + (1 : Int32)))
noncomputable def mX5_firstSayer_l2f (x0 : Nat) (x1 : Int32) (h : Hp) (x2 : Int32) : Option (Int32 ⊕ Int32) :=
  (gI 5 2 x0 h).bind fun v1 =>
  if x2 < v1 then
  ((gR 5 13 x0 h).bind fun v2 =>
  (mX11_at v2 x2 h).bind fun v3 =>
  (mX11_has v3 x1).bind fun v5 =>
  if v5 = 0 then
  (mX5_firstSayer_b38 x0 x1 x2 h)
  else ((gI 5 3 x0 h).bind fun v7 =>
  (mX11_has v7 x2).bind fun v8 =>
  if v8 = 0 then
  (xt (some x2))
  else (mX5_firstSayer_b38 x0 x1 x2 h)))
  else (xt (some (-1 : Int32)))
noncomputable def mX5_firstSayer_l2 (x0 : Nat) (x1 : Int32) (x2 : Int32) (h : Hp) : Option Int32 :=
  lp (fun s : Int32 => mX5_firstSayer_l2f x0 x1 h s) x2
noncomputable def mX5_firstSayer (x0 : Nat) (x1 : Int32) (h : Hp) : Option Int32 :=
  if (hpS h x0).1 = 6 then
  mX5_firstSayer_l2 x0 x1 (0 : Int32) h
  else none

noncomputable def mX6_clear (x0 : Nat) (h : Hp) : Option Hp :=
  if (hpS h x0).1 = 7 then
  (sI 6 5 x0 (0 : Int32) h).bind fun h1 =>
  (gR 6 4 x0 h1).bind fun v2 =>
  (mX11_wipe v2 h1).bind fun h4 =>
  some h4
  else none

noncomputable def mX6_enter_b85 (x0 : Nat) (x3 : Int32) (x4 : Int32) (h : Hp) : Option Hp :=
  (gR 6 1 x0 h).bind fun v4 =>
  (gR 6 1 x0 h).bind fun v5 =>
  (mX11_at v5 x4 h).bind fun v6 =>
  (mX11_put v4 x4 (v6 + (1 : Int32)) h).bind fun h9 =>
  (gR 6 3 x0 h9).bind fun v10 =>
  (gR 6 3 x0 h9).bind fun v11 =>
  (mX11_longAt v11 x4 h9).bind fun v12 =>
  (mX11_putLong v10 x4 (v12 + x3.toInt64) h9).bind fun h15 =>
  some h15
noncomputable def mX6_enter (x0 : Nat) (x1 : Int32) (x2 : Int32) (x3 : Int32) (h : Hp) : Option Hp :=
  if (hpS h x0).1 = 7 then
  (gR 6 4 x0 h).bind fun v1 =>
  (mX11_at v1 x1 h).bind fun v2 =>
  if (v2 - (1 : Int32)) < 0 then
  ((gI 6 5 x0 h).bind fun v16 =>
  (gI 6 5 x0 h).bind fun v17 =>
  (sI 6 5 x0 (v17 + (1 : Int32)) h).bind fun h18 =>
  (gR 6 4 x0 h18).bind fun v19 =>
  (gI 6 5 x0 h18).bind fun v20 =>
  (mX11_put v19 x1 v20 h18).bind fun h22 =>
  (gR 6 0 x0 h22).bind fun v23 =>
  (mX11_put v23 v16 x1 h22).bind fun h25 =>
  (gR 6 2 x0 h25).bind fun v26 =>
  (mX11_put v26 v16 x2 h25).bind fun h28 =>
  (gR 6 1 x0 h28).bind fun v29 =>
  (mX11_put v29 v16 (0 : Int32) h28).bind fun h31 =>
  (gR 6 3 x0 h31).bind fun v32 =>
  (mX11_putLong v32 v16 (0 : Int64) h31).bind fun h34 =>
  mX6_enter_b85 x0 x3 v16 h34)
  else (mX6_enter_b85 x0 x3 (v2 - (1 : Int32)) h)
  else none

noncomputable def mX7_take_l16f (x0 : Nat) (x1 : Int32) (x2 : Int32) (h : Hp) : Option ((Int32 × Hp) ⊕ (Int32 × Hp)) :=
  if x2 < (4 : Int32) then
  ((gR 7 0 x0 h).bind fun v4 =>
  (gI 7 1 x0 h).bind fun v5 =>
  (mX11_put v4 (v5 + x2) ((ushrI x1 ((24 : Int32) - ((8 : Int32) * x2))) &&& (255 : Int32)) h).bind fun h7 =>
  some (.inl ((x2 + (1 : Int32)), h7)))
  else (xt ((gI 7 1 x0 h).bind fun v2 =>
  (sI 7 1 x0 (v2 + (4 : Int32)) h).bind fun h3 =>
  some ((1 : Int32), h3)))
noncomputable def mX7_take_l16 (x0 : Nat) (x1 : Int32) (x2 : Int32) (h : Hp) : Option (Int32 × Hp) :=
  lp (fun s : (Int32 × Hp) => mX7_take_l16f x0 x1 s.1 s.2) (x2, h)
noncomputable def mX7_take (x0 : Nat) (x1 : Int32) (h : Hp) : Option (Int32 × Hp) :=
  if (hpS h x0).1 = 8 then
  (gI 7 1 x0 h).bind fun v1 =>
  if (480 : Int32) < (v1 + (4 : Int32)) then
  (some ((0 : Int32), h))
  else (mX7_take_l16 x0 x1 (0 : Int32) h)
  else none

noncomputable def mX7_cut (x0 : Nat) (x1 : Int32) (h : Hp) : Option (Int32 × Hp) :=
  if (hpS h x0).1 = 8 then
  if x1 < 0 then
  (some ((0 : Int32), h))
  else ((gI 7 1 x0 h).bind fun v1 =>
  if v1 < x1 then
  (some ((0 : Int32), h))
  else ((sI 7 1 x0 x1 h).bind fun h2 =>
  some ((1 : Int32), h2)))
  else none

noncomputable def mX7_read (x0 : Nat) (x1 : Int32) (h : Hp) : Option Int32 :=
  if (hpS h x0).1 = 8 then
  (gI 7 1 x0 h).bind fun v1 =>
  if x1 < v1 then
  ((gR 7 0 x0 h).bind fun v2 =>
  (mX11_at v2 x1 h).bind fun v3 =>
  some v3)
  else (some (0 : Int32))
  else none

noncomputable def mX9_node (x0 : Nat) (x1 : Int32) (x2 : Int32) (h : Hp) : Option Int32 :=
  if (hpS h x0).1 = 10 then
  (gR 9 0 x0 h).bind fun v1 =>
  (mX11_at v1 x1 h).bind fun v2 =>
  (gR 9 0 x0 h).bind fun v4 =>
  (mX11_at v4 x2 h).bind fun v5 =>
  some (v2 + v5)
  else none

noncomputable def mX9_markOf (x0 : Nat) (x1 : Int32) (x2 : Int32) (h : Hp) : Option Int32 :=
  if (hpS h x0).1 = 10 then
  (gR 9 2 x0 h).bind fun v1 =>
  (mX9_node x0 x1 x2 h).bind fun v2 =>
  (mX11_at v1 v2 h).bind fun v4 =>
  some v4
  else none

noncomputable def mX9_value (x0 : Nat) (h : Hp) : Option Int32 :=
  if (hpS h x0).1 = 10 then
  (gR 9 3 x0 h).bind fun v1 =>
  (mX11_at v1 (0 : Int32) h).bind fun v2 =>
  some v2
  else none

noncomputable def mX9_setLeaf (x0 : Nat) (x1 : Int32) (x2 : Int32) (h : Hp) : Option Hp :=
  if (hpS h x0).1 = 10 then
  (gR 9 1 x0 h).bind fun v1 =>
  (mX11_put v1 x1 x2 h).bind fun h3 =>
  some h3
  else none

noncomputable def mX9_markFrom (x0 : Nat) (x1 : Int32) (x2 : Int32) (h : Hp) : Option Int32 :=
  if (hpS h x0).1 = 10 then
  (gR 9 0 x0 h).bind fun v1 =>
  (mX11_at v1 (x2 &&& (-x2)) h).bind fun v2 =>
  (gR 9 2 x0 h).bind fun v4 =>
  (mX11_at v4 (x1 + v2) h).bind fun v5 =>
  (gR 9 2 x0 h).bind fun v7 =>
  (mX11_at v7 (x1 + ((2 : Int32) * v2)) h).bind fun v8 =>
  some (v5 ||| v8)
  else none

noncomputable def mX9_grow_b103 (x0 : Nat) (x2 : Int32) (x3 : Int32) (h : Hp) : Option ((Int32 × Hp) ⊕ Hp) :=
  some (.inl ((x3 + (-1 : Int32)), h))
noncomputable def mX9_grow_b97 (x0 : Nat) (x2 : Int32) (x3 : Int32) (x4 : Int32) (h : Hp) : Option ((Int32 × Hp) ⊕ ((Int32 × Hp) ⊕ Hp)) :=
  some (.inl ((x4 + (-1 : Int32)), h))
noncomputable def mX9_grow_b94 (x0 : Nat) (x2 : Int32) (x3 : Int32) (x4 : Int32) (t0 : Nat) (t1 : Int32) (t2 : Int32) (h : Hp) : Option ((Int32 × Hp) ⊕ ((Int32 × Hp) ⊕ Hp)) :=
  (mX11_put t0 t1 t2 h).bind fun h11 =>
  mX9_grow_b97 x0 x2 x3 x4 h11
noncomputable def mX9_grow_l17f (x0 : Nat) (x2 : Int32) (x3 : Int32) (x4 : Int32) (h : Hp) : Option ((Int32 × Hp) ⊕ ((Int32 × Hp) ⊕ Hp)) :=
  if x4 < 0 then
  (xt (mX9_grow_b103 x0 x2 x3 h))
  else ((gI 9 4 x0 h).bind fun v3 =>
  if (x3 &&& (v3 ^^^ (-1 : Int32))) = 0 then
  (if (x4 &&& (x3 ^^^ (-1 : Int32))) = 0 then
  ((mX9_node x0 x3 x4 h).bind fun v4 =>
  (gI 9 4 x0 h).bind fun v6 =>
  (gR 9 2 x0 h).bind fun v7 =>
  if (v6 &&& (x3 ^^^ (-1 : Int32))) = 0 then
  ((gR 9 1 x0 h).bind fun v12 =>
  (mX11_at v12 (x4 ||| x2) h).bind fun v13 =>
  mX9_grow_b94 x0 x2 x3 x4 v7 v4 v13 h)
  else ((mX9_markFrom x0 v4 (v6 &&& (x3 ^^^ (-1 : Int32))) h).bind fun v8 =>
  mX9_grow_b94 x0 x2 x3 x4 v7 v4 v8 h))
  else (mX9_grow_b97 x0 x2 x3 x4 h))
  else (xt (mX9_grow_b103 x0 x2 x3 h)))
noncomputable def mX9_grow_l17 (x0 : Nat) (x2 : Int32) (x3 : Int32) (x4 : Int32) (h : Hp) : Option ((Int32 × Hp) ⊕ Hp) :=
  lp (fun s : (Int32 × Hp) => mX9_grow_l17f x0 x2 x3 s.1 s.2) (x4, h)
noncomputable def mX9_grow_l10f (x0 : Nat) (x2 : Int32) (x3 : Int32) (h : Hp) : Option ((Int32 × Hp) ⊕ Hp) :=
  if x3 < 0 then
  (xt (some h))
  else (mX9_grow_l17 x0 x2 x3 x3 h)
noncomputable def mX9_grow_l10 (x0 : Nat) (x2 : Int32) (x3 : Int32) (h : Hp) : Option Hp :=
  lp (fun s : (Int32 × Hp) => mX9_grow_l10f x0 x2 s.1 s.2) (x3, h)
noncomputable def mX9_grow (x0 : Nat) (x1 : Int32) (x2 : Int32) (h : Hp) : Option Hp :=
  if (hpS h x0).1 = 10 then
  (sI 9 4 x0 x1 h).bind fun h1 =>
  (gI 9 4 x0 h1).bind fun v2 =>
  mX9_grow_l10 x0 x2 v2 h1
  else none

noncomputable def mX9_trialsBy (x0 : Nat) (x1 : Int32) (x2 : Int32) (h : Hp) : Option Int32 :=
  if (hpS h x0).1 = 10 then
  (gR 9 0 x0 h).bind fun v1 =>
  (mX11_at v1 ((1 : Int32) <<< (x1 &&& 31)) h).bind fun v2 =>
  (gR 9 3 x0 h).bind fun v4 =>
  (mX11_at v4 (x2 + v2) h).bind fun v5 =>
  (gR 9 3 x0 h).bind fun v7 =>
  (mX11_at v7 (x2 + ((2 : Int32) * v2)) h).bind fun v8 =>
  some ((1 : Int32) + (mmax v5 v8))
  else none

noncomputable def mX9_fewestTrials_b41 (x0 : Nat) (x1 : Int32) (x2 : Int32) (x3 : Int32) (x4 : Int32) (h : Hp) : Option ((Int32 × Int32) ⊕ Int32) :=
  some (.inl (x3, (x4 + (1 : Int32))))
noncomputable def mX9_fewestTrials_l6f (x0 : Nat) (x1 : Int32) (x2 : Int32) (h : Hp) (x3 : Int32) (x4 : Int32) : Option ((Int32 × Int32) ⊕ Int32) :=
  if x4 < (8 : Int32) then
  ((gI 9 4 x0 h).bind fun v1 =>
  (mX11_has (v1 &&& (x1 ^^^ (-1 : Int32))) x4).bind fun v2 =>
  if v2 = 0 then
  (mX9_fewestTrials_b41 x0 x1 x2 x3 x4 h)
  else ((mX9_trialsBy x0 x4 x2 h).bind fun v4 =>
  mX9_fewestTrials_b41 x0 x1 x2 (mmin x3 v4) x4 h))
  else (xt (some x3))
noncomputable def mX9_fewestTrials_l6 (x0 : Nat) (x1 : Int32) (x2 : Int32) (x3 : Int32) (x4 : Int32) (h : Hp) : Option Int32 :=
  lp (fun s : (Int32 × Int32) => mX9_fewestTrials_l6f x0 x1 x2 h s.1 s.2) (x3, x4)
noncomputable def mX9_fewestTrials (x0 : Nat) (x1 : Int32) (x2 : Int32) (h : Hp) : Option Int32 :=
  if (hpS h x0).1 = 10 then
  mX9_fewestTrials_l6 x0 x1 x2 (8 : Int32) (0 : Int32) h
  else none

noncomputable def mX9_countTrials_b77 (x0 : Nat) (x1 : Int32) (h : Hp) : Option ((Int32 × Hp) ⊕ Hp) :=
  some (.inl ((x1 + (-1 : Int32)), h))
noncomputable def mX9_countTrials_b71 (x0 : Nat) (x1 : Int32) (x2 : Int32) (h : Hp) : Option ((Int32 × Hp) ⊕ ((Int32 × Hp) ⊕ Hp)) :=
  some (.inl ((x2 + (-1 : Int32)), h))
noncomputable def mX9_countTrials_b68 (x0 : Nat) (x1 : Int32) (x2 : Int32) (t0 : Nat) (t1 : Int32) (t2 : Int32) (h : Hp) : Option ((Int32 × Hp) ⊕ ((Int32 × Hp) ⊕ Hp)) :=
  (mX11_put t0 t1 t2 h).bind fun h10 =>
  mX9_countTrials_b71 x0 x1 x2 h10
noncomputable def mX9_countTrials_l11f (x0 : Nat) (x1 : Int32) (x2 : Int32) (h : Hp) : Option ((Int32 × Hp) ⊕ ((Int32 × Hp) ⊕ Hp)) :=
  if x2 < 0 then
  (xt (mX9_countTrials_b77 x0 x1 h))
  else ((gI 9 4 x0 h).bind fun v2 =>
  if (x1 &&& (v2 ^^^ (-1 : Int32))) = 0 then
  (if (x2 &&& (x1 ^^^ (-1 : Int32))) = 0 then
  ((mX9_node x0 x1 x2 h).bind fun v3 =>
  (gR 9 3 x0 h).bind fun v5 =>
  (gR 9 2 x0 h).bind fun v6 =>
  (mX11_at v6 v3 h).bind fun v7 =>
  if v7 = (3 : Int32) then
  ((mX9_fewestTrials x0 x1 v3 h).bind fun v11 =>
  mX9_countTrials_b68 x0 x1 x2 v5 v3 v11 h)
  else (mX9_countTrials_b68 x0 x1 x2 v5 v3 (0 : Int32) h))
  else (mX9_countTrials_b71 x0 x1 x2 h))
  else (xt (mX9_countTrials_b77 x0 x1 h)))
noncomputable def mX9_countTrials_l11 (x0 : Nat) (x1 : Int32) (x2 : Int32) (h : Hp) : Option ((Int32 × Hp) ⊕ Hp) :=
  lp (fun s : (Int32 × Hp) => mX9_countTrials_l11f x0 x1 s.1 s.2) (x2, h)
noncomputable def mX9_countTrials_l5f (x0 : Nat) (x1 : Int32) (h : Hp) : Option ((Int32 × Hp) ⊕ Hp) :=
  if x1 < 0 then
  (xt (some h))
  else (mX9_countTrials_l11 x0 x1 x1 h)
noncomputable def mX9_countTrials_l5 (x0 : Nat) (x1 : Int32) (h : Hp) : Option Hp :=
  lp (fun s : (Int32 × Hp) => mX9_countTrials_l5f x0 s.1 s.2) (x1, h)
noncomputable def mX9_countTrials (x0 : Nat) (h : Hp) : Option Hp :=
  if (hpS h x0).1 = 10 then
  (gI 9 4 x0 h).bind fun v1 =>
  mX9_countTrials_l5 x0 v1 h
  else none

noncomputable def mX9_firstTrial_b34 (x0 : Nat) (x1 : Int32) (h : Hp) : Option (Int32 ⊕ Int32) :=
  some (.inl (x1 + (1 : Int32)))
noncomputable def mX9_firstTrial_l2f (x0 : Nat) (h : Hp) (x1 : Int32) : Option (Int32 ⊕ Int32) :=
  if x1 < (8 : Int32) then
  ((gI 9 4 x0 h).bind fun v1 =>
  (mX11_has v1 x1).bind fun v2 =>
  if v2 = 0 then
  (mX9_firstTrial_b34 x0 x1 h)
  else ((mX9_trialsBy x0 x1 (0 : Int32) h).bind fun v4 =>
  (mX9_value x0 h).bind fun v6 =>
  if v4 = v6 then
  (xt (some x1))
  else (mX9_firstTrial_b34 x0 x1 h)))
  else (xt (some (-1 : Int32)))
noncomputable def mX9_firstTrial_l2 (x0 : Nat) (x1 : Int32) (h : Hp) : Option Int32 :=
  lp (fun s : Int32 => mX9_firstTrial_l2f x0 h s) x1
noncomputable def mX9_firstTrial (x0 : Nat) (h : Hp) : Option Int32 :=
  if (hpS h x0).1 = 10 then
  mX9_firstTrial_l2 x0 (0 : Int32) h
  else none

noncomputable def mX9_leadsTo (x0 : Nat) (x1 : Int32) (x2 : Int32) (h : Hp) : Option Int32 :=
  if (hpS h x0).1 = 10 then
  (gR 9 2 x0 h).bind fun v1 =>
  (mX11_at v1 x1 h).bind fun v2 =>
  if v2 = 0 then
  (some (0 : Int32))
  else ((gR 9 3 x0 h).bind fun v4 =>
  (mX11_at v4 x1 h).bind fun v5 =>
  if v5 = x2 then
  (some (1 : Int32))
  else (some (0 : Int32)))
  else none

noncomputable def mX9_bestTurn_b77 (x0 : Nat) (x1 : Int32) (x2 : Int32) (x3 : Int32) (x4 : Int32) (h : Hp) : Option (Int32 ⊕ Int32) :=
  some (.inl (x4 + (1 : Int32)))
noncomputable def mX9_bestTurn_l3f (x0 : Nat) (x1 : Int32) (x2 : Int32) (x3 : Int32) (h : Hp) (x4 : Int32) : Option (Int32 ⊕ Int32) :=
  if x4 < (8 : Int32) then
  ((gI 9 4 x0 h).bind fun v1 =>
  (mX11_has (v1 &&& (x1 ^^^ (-1 : Int32))) x4).bind fun v2 =>
  if v2 = 0 then
  (mX9_bestTurn_b77 x0 x1 x2 x3 x4 h)
  else ((gR 9 0 x0 h).bind fun v4 =>
  (mX11_at v4 ((1 : Int32) <<< (x4 &&& 31)) h).bind fun v5 =>
  (mX9_leadsTo x0 (x2 + v5) x3 h).bind fun v7 =>
  if v7 = 0 then
  ((mX9_leadsTo x0 (x2 + ((2 : Int32) * v5)) x3 h).bind fun v9 =>
  if v9 = 0 then
  (mX9_bestTurn_b77 x0 x1 x2 x3 x4 h)
  else (xt (some (((2 : Int32) * x4) + (1 : Int32)))))
  else (xt (some ((2 : Int32) * x4)))))
  else (xt (some (-1 : Int32)))
noncomputable def mX9_bestTurn_l3 (x0 : Nat) (x1 : Int32) (x2 : Int32) (x3 : Int32) (x4 : Int32) (h : Hp) : Option Int32 :=
  lp (fun s : Int32 => mX9_bestTurn_l3f x0 x1 x2 x3 h s) x4
noncomputable def mX9_bestTurn (x0 : Nat) (x1 : Int32) (x2 : Int32) (x3 : Int32) (h : Hp) : Option Int32 :=
  if (hpS h x0).1 = 10 then
  mX9_bestTurn_l3 x0 x1 x2 x3 (0 : Int32) h
  else none

noncomputable def mX9_winner (x0 : Nat) (x1 : Int32) (x2 : Int32) (x3 : Int32) (h : Hp) : Option Int32 :=
  if (hpS h x0).1 = 10 then
  (gI 9 4 x0 h).bind fun v1 =>
  if x1 = v1 then
  ((gR 9 2 x0 h).bind fun v4 =>
  (mX11_at v4 x2 h).bind fun v5 =>
  if v5 = (1 : Int32) then
  (some (1 : Int32))
  else (some (0 : Int32)))
  else ((mX9_bestTurn x0 x1 x2 ((1 : Int32) - x3) h).bind fun v2 =>
  if v2 < 0 then
  (some ((1 : Int32) - ((1 : Int32) - x3)))
  else (some ((1 : Int32) - x3)))
  else none

noncomputable def mX9_playOut_b78 (x0 : Nat) (x1 : Int32) (x2 : Int32) (h : Hp) : Option ((Int32 × Hp) ⊕ Hp) :=
  some (.inl ((x2 + (-1 : Int32)), h))
noncomputable def mX9_playOut_b72 (x0 : Nat) (x1 : Int32) (x2 : Int32) (x3 : Int32) (x4 : Int32) (h : Hp) : Option ((Int32 × Hp) ⊕ ((Int32 × Hp) ⊕ Hp)) :=
  some (.inl ((x4 + (-1 : Int32)), h))
noncomputable def mX9_playOut_l21f (x0 : Nat) (x1 : Int32) (x2 : Int32) (x3 : Int32) (x4 : Int32) (h : Hp) : Option ((Int32 × Hp) ⊕ ((Int32 × Hp) ⊕ Hp)) :=
  if x4 < 0 then
  (xt (mX9_playOut_b78 x0 x1 x2 h))
  else ((gI 9 4 x0 h).bind fun v4 =>
  if (x2 &&& (v4 ^^^ (-1 : Int32))) = 0 then
  (if (x4 &&& (x2 ^^^ (-1 : Int32))) = 0 then
  ((mX9_node x0 x2 x4 h).bind fun v5 =>
  (gR 9 3 x0 h).bind fun v7 =>
  (mX9_winner x0 x2 v5 x3 h).bind fun v8 =>
  (mX11_put v7 v5 v8 h).bind fun h11 =>
  mX9_playOut_b72 x0 x1 x2 x3 x4 h11)
  else (mX9_playOut_b72 x0 x1 x2 x3 x4 h))
  else (xt (mX9_playOut_b78 x0 x1 x2 h)))
noncomputable def mX9_playOut_l21 (x0 : Nat) (x1 : Int32) (x2 : Int32) (x3 : Int32) (x4 : Int32) (h : Hp) : Option ((Int32 × Hp) ⊕ Hp) :=
  lp (fun s : (Int32 × Hp) => mX9_playOut_l21f x0 x1 x2 x3 s.1 s.2) (x4, h)
noncomputable def mX9_playOut_l5f (x0 : Nat) (x1 : Int32) (x2 : Int32) (h : Hp) : Option ((Int32 × Hp) ⊕ Hp) :=
  if x2 < 0 then
  (xt (some h))
  else ((mJ6_bitCount_0f7a4 x2).bind fun v2 =>
  mX9_playOut_l21 x0 x1 x2 ((x1 + v2) &&& (1 : Int32)) x2 h)
noncomputable def mX9_playOut_l5 (x0 : Nat) (x1 : Int32) (x2 : Int32) (h : Hp) : Option Hp :=
  lp (fun s : (Int32 × Hp) => mX9_playOut_l5f x0 x1 s.1 s.2) (x2, h)
noncomputable def mX9_playOut (x0 : Nat) (x1 : Int32) (h : Hp) : Option Hp :=
  if (hpS h x0).1 = 10 then
  (gI 9 4 x0 h).bind fun v1 =>
  mX9_playOut_l5 x0 x1 v1 h
  else none

noncomputable def mX9_winningTurn (x0 : Nat) (x1 : Int32) (h : Hp) : Option Int32 :=
  if (hpS h x0).1 = 10 then
  (mX9_bestTurn x0 (0 : Int32) (0 : Int32) ((1 : Int32) - x1) h).bind fun v1 =>
  some v1
  else none

noncomputable def mX9_isProof_b88 (x0 : Nat) (x1 : Int32) (x2 : Int32) (x3 : Int32) (x4 : Int32) (x5 : Int32) (h : Hp) : Option (Int32 ⊕ Int32) :=
  some (.inl (x5 + (1 : Int32)))
noncomputable def mX9_isProof_b47 (x0 : Nat) (x1 : Int32) (x2 : Int32) (x3 : Int32) (x4 : Int32) (x5 : Int32) (t0 : Int32) (h : Hp) : Option (Int32 ⊕ Int32) :=
  (mX11_has x1 x5).bind fun v8 =>
  if v8 = 0 then
  (mX9_isProof_b88 x0 x1 x2 x3 x4 x5 h)
  else ((gR 9 2 x0 h).bind fun v10 =>
  (gR 9 0 x0 h).bind fun v11 =>
  (mX11_at v11 ((1 : Int32) <<< (x5 &&& 31)) h).bind fun v12 =>
  (mX11_at v10 (x4 - (t0 * v12)) h).bind fun v14 =>
  if v14 = x3 then
  (xt (some (0 : Int32)))
  else (mX9_isProof_b88 x0 x1 x2 x3 x4 x5 h))
noncomputable def mX9_isProof_l26f (x0 : Nat) (x1 : Int32) (x2 : Int32) (x3 : Int32) (x4 : Int32) (h : Hp) (x5 : Int32) : Option (Int32 ⊕ Int32) :=
  if x5 < (8 : Int32) then
  ((mX11_has x2 x5).bind fun v6 =>
  if v6 = 0 then
  (mX9_isProof_b47 x0 x1 x2 x3 x4 x5 (1 : Int32) h)
  else (mX9_isProof_b47 x0 x1 x2 x3 x4 x5 (2 : Int32) h))
  else (xt (some (1 : Int32)))
noncomputable def mX9_isProof_l26 (x0 : Nat) (x1 : Int32) (x2 : Int32) (x3 : Int32) (x4 : Int32) (x5 : Int32) (h : Hp) : Option Int32 :=
  lp (fun s : Int32 => mX9_isProof_l26f x0 x1 x2 x3 x4 h s) x5
noncomputable def mX9_isProof (x0 : Nat) (x1 : Int32) (x2 : Int32) (x3 : Int32) (h : Hp) : Option Int32 :=
  if (hpS h x0).1 = 10 then
  (mX9_node x0 x1 x2 h).bind fun v1 =>
  (gR 9 2 x0 h).bind fun v3 =>
  (mX11_at v3 v1 h).bind fun v4 =>
  if v4 = x3 then
  (mX9_isProof_l26 x0 x1 x2 x3 v1 (0 : Int32) h)
  else (some (0 : Int32))
  else none

noncomputable def mX10_copy_l2f (x0 : Nat) (x1 : Nat) (x2 : Int32) (h : Hp) : Option ((Int32 × Hp) ⊕ Hp) :=
  (gR 10 0 x0 h).bind fun v1 =>
  (aLen v1 h).bind fun v2 =>
  if x2 < v2 then
  ((gR 10 0 x1 h).bind fun v3 =>
  (aLen v3 h).bind fun v4 =>
  if x2 < v4 then
  ((gR 10 0 x0 h).bind fun v5 =>
  (gR 10 0 x1 h).bind fun v6 =>
  (ldL v6 x2 h).bind fun v7 =>
  (stL v5 x2 v7 h).bind fun h8 =>
  some (.inl ((x2 + (1 : Int32)), h8)))
  else (xt (some h)))
  else (xt (some h))
noncomputable def mX10_copy_l2 (x0 : Nat) (x1 : Nat) (x2 : Int32) (h : Hp) : Option Hp :=
  lp (fun s : (Int32 × Hp) => mX10_copy_l2f x0 x1 s.1 s.2) (x2, h)
noncomputable def mX10_copy (x0 : Nat) (x1 : Nat) (h : Hp) : Option Hp :=
  if (hpS h x0).1 = 11 then
  mX10_copy_l2 x0 x1 (0 : Int32) h
  else none

noncomputable def mX10_howIn (x0 : Nat) (x1 : Nat) (h : Hp) : Option Int32 :=
  if (hpS h x0).1 = 11 then
  (mX10_within x0 x1 h).bind fun v1 =>
  if v1 = 0 then
  ((mX10_meets x0 x1 h).bind fun v3 =>
  if v3 = 0 then
  (some (0 : Int32))
  else (some (2 : Int32)))
  else (some (1 : Int32))
  else none

