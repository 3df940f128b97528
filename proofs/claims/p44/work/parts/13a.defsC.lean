noncomputable def mX5_init (x0 : Nat) (h : Hp) : Option Hp :=
  b2 (newA 50 8 h) fun v2 h1 =>
  (sR 5 9 x0 v2 h1).bind fun h3 =>
  b2 (newA 50 8 h3) fun v5 h4 =>
  (sR 5 10 x0 v5 h4).bind fun h6 =>
  b2 (newA 50 8 h6) fun v8 h7 =>
  (sR 5 11 x0 v8 h7).bind fun h9 =>
  b2 (newA 50 8 h9) fun v11 h10 =>
  (sR 5 12 x0 v11 h10).bind fun h12 =>
  b2 (newA 50 8 h12) fun v14 h13 =>
  (sR 5 13 x0 v14 h13).bind fun h15 =>
  b2 (newA 50 8 h15) fun v17 h16 =>
  (sR 5 14 x0 v17 h16).bind fun h18 =>
  some h18

noncomputable def mX0_init_l50f (x0 : Nat) (x1 : Int32) (h : Hp) : Option ((Int32 × Hp) ⊕ Hp) :=
  if x1 < (2 : Int32) then
  ((gR 0 1 x0 h).bind fun v7 =>
  b2 (newO 5 15 h) fun v9 h8 =>
  (mX5_init v9 h8).bind fun h11 =>
  (stR 5 v7 x1 v9 h11).bind fun h12 =>
  some (.inl ((x1 + (1 : Int32)), h12)))
  else (xt (some h))
noncomputable def mX0_init_l50 (x0 : Nat) (x1 : Int32) (h : Hp) : Option Hp :=
  lp (fun s : (Int32 × Hp) => mX0_init_l50f x0 s.1 s.2) (x1, h)
noncomputable def mX0_init_l23f (x0 : Nat) (x1 : Int32) (h : Hp) : Option ((Int32 × Hp) ⊕ Hp) :=
  if x1 < (16 : Int32) then
  ((gR 0 0 x0 h).bind fun v13 =>
  b2 (newO 5 15 h) fun v15 h14 =>
  (mX5_init v15 h14).bind fun h17 =>
  (stR 5 v13 x1 v15 h17).bind fun h18 =>
  some (.inl ((x1 + (1 : Int32)), h18)))
  else (xt (mX0_init_l50 x0 (0 : Int32) h))
noncomputable def mX0_init_l23 (x0 : Nat) (x1 : Int32) (h : Hp) : Option Hp :=
  lp (fun s : (Int32 × Hp) => mX0_init_l23f x0 s.1 s.2) (x1, h)
noncomputable def mX0_init (x0 : Nat) (h : Hp) : Option Hp :=
  b2 (newA 65 16 h) fun v2 h1 =>
  (sR 0 0 x0 v2 h1).bind fun h3 =>
  b2 (newA 65 2 h3) fun v5 h4 =>
  (sR 0 1 x0 v5 h4).bind fun h6 =>
  mX0_init_l23 x0 (0 : Int32) h6

noncomputable def mX0_forget (x0 : Nat) (h : Hp) : Option Hp :=
  if (hpS h x0).1 = 1 then
  (sI 0 4 x0 (0 : Int32) h).bind fun h1 =>
  (sI 0 2 x0 (0 : Int32) h1).bind fun h2 =>
  some h2
  else none

noncomputable def mX11_copyRow_l2f (x0 : Nat) (x1 : Nat) (x2 : Int32) (h : Hp) : Option ((Int32 × Hp) ⊕ Hp) :=
  (aLen x0 h).bind fun v1 =>
  if x2 < v1 then
  ((aLen x1 h).bind fun v2 =>
  if x2 < v2 then
  ((ldI x0 x2 h).bind fun v3 =>
  (stI x1 x2 v3 h).bind fun h4 =>
  some (.inl ((x2 + (1 : Int32)), h4)))
  else (xt (some h)))
  else (xt (some h))
noncomputable def mX11_copyRow_l2 (x0 : Nat) (x1 : Nat) (x2 : Int32) (h : Hp) : Option Hp :=
  lp (fun s : (Int32 × Hp) => mX11_copyRow_l2f x0 x1 s.1 s.2) (x2, h)
noncomputable def mX11_copyRow (x0 : Nat) (x1 : Nat) (h : Hp) : Option Hp :=
  mX11_copyRow_l2 x0 x1 (0 : Int32) h

noncomputable def mX5_copy (x0 : Nat) (x1 : Nat) (h : Hp) : Option Hp :=
  if (hpS h x0).1 = 6 then
  (gI 5 0 x1 h).bind fun v1 =>
  (sI 5 0 x0 v1 h).bind fun h2 =>
  (gI 5 1 x1 h2).bind fun v3 =>
  (sZ 5 1 x0 v3 h2).bind fun h4 =>
  (gI 5 2 x1 h4).bind fun v5 =>
  (sI 5 2 x0 v5 h4).bind fun h6 =>
  (gI 5 3 x1 h6).bind fun v7 =>
  (sI 5 3 x0 v7 h6).bind fun h8 =>
  (gI 5 4 x1 h8).bind fun v9 =>
  (sI 5 4 x0 v9 h8).bind fun h10 =>
  (gI 5 5 x1 h10).bind fun v11 =>
  (sI 5 5 x0 v11 h10).bind fun h12 =>
  (gI 5 6 x1 h12).bind fun v13 =>
  (sI 5 6 x0 v13 h12).bind fun h14 =>
  (gI 5 7 x1 h14).bind fun v15 =>
  (sI 5 7 x0 v15 h14).bind fun h16 =>
  (gI 5 8 x1 h16).bind fun v17 =>
  (sI 5 8 x0 v17 h16).bind fun h18 =>
  (gR 5 9 x1 h18).bind fun v19 =>
  (gR 5 9 x0 h18).bind fun v20 =>
  (mX11_copyRow v19 v20 h18).bind fun h22 =>
  (gR 5 10 x1 h22).bind fun v23 =>
  (gR 5 10 x0 h22).bind fun v24 =>
  (mX11_copyRow v23 v24 h22).bind fun h26 =>
  (gR 5 11 x1 h26).bind fun v27 =>
  (gR 5 11 x0 h26).bind fun v28 =>
  (mX11_copyRow v27 v28 h26).bind fun h30 =>
  (gR 5 12 x1 h30).bind fun v31 =>
  (gR 5 12 x0 h30).bind fun v32 =>
  (mX11_copyRow v31 v32 h30).bind fun h34 =>
  (gR 5 13 x1 h34).bind fun v35 =>
  (gR 5 13 x0 h34).bind fun v36 =>
  (mX11_copyRow v35 v36 h34).bind fun h38 =>
  (gR 5 14 x1 h38).bind fun v39 =>
  (gR 5 14 x0 h38).bind fun v40 =>
  (mX11_copyRow v39 v40 h38).bind fun h42 =>
  some h42
  else none

noncomputable def mX0_note_b44 (x0 : Nat) (h : Hp) : Option Hp :=
  (gI 0 3 x0 h).bind fun v2 =>
  (sI 0 3 x0 ((v2 + (1 : Int32)) &&& (15 : Int32)) h).bind fun h3 =>
  (gI 0 4 x0 h3).bind fun v4 =>
  (sI 0 4 x0 (mmin (v4 + (1 : Int32)) (16 : Int32)) h3).bind fun h5 =>
  some h5
noncomputable def mX0_note (x0 : Nat) (x1 : Nat) (h : Hp) : Option Hp :=
  if (hpS h x0).1 = 1 then
  (gI 0 3 x0 h).bind fun v1 =>
  if v1 < 0 then
  (mX0_note_b44 x0 h)
  else ((gI 0 3 x0 h).bind fun v6 =>
  (gR 0 0 x0 h).bind fun v7 =>
  (aLen v7 h).bind fun v8 =>
  if v6 < v8 then
  ((gR 0 0 x0 h).bind fun v9 =>
  (gI 0 3 x0 h).bind fun v10 =>
  (ldR 5 v9 v10 h).bind fun v11 =>
  if v11 = 0 then
  (mX0_note_b44 x0 h)
  else ((gR 0 0 x0 h).bind fun v12 =>
  (gI 0 3 x0 h).bind fun v13 =>
  (ldR 5 v12 v13 h).bind fun v14 =>
  (mX5_copy v14 x1 h).bind fun h16 =>
  mX0_note_b44 x0 h16))
  else (mX0_note_b44 x0 h))
  else none

noncomputable def mX0_takeBack (x0 : Nat) (x1 : Nat) (h : Hp) : Option (Int32 × Hp) :=
  if (hpS h x0).1 = 1 then
  (gI 0 4 x0 h).bind fun v1 =>
  if v1 = 0 then
  (some ((0 : Int32), h))
  else ((gI 0 3 x0 h).bind fun v2 =>
  (sI 0 3 x0 ((v2 - (1 : Int32)) &&& (15 : Int32)) h).bind fun h3 =>
  (gI 0 4 x0 h3).bind fun v4 =>
  (sI 0 4 x0 (v4 - (1 : Int32)) h3).bind fun h5 =>
  (gI 0 3 x0 h5).bind fun v6 =>
  if v6 < 0 then
  (some ((1 : Int32), h5))
  else ((gI 0 3 x0 h5).bind fun v7 =>
  (gR 0 0 x0 h5).bind fun v8 =>
  (aLen v8 h5).bind fun v9 =>
  if v7 < v9 then
  ((gR 0 0 x0 h5).bind fun v10 =>
  (gI 0 3 x0 h5).bind fun v11 =>
  (ldR 5 v10 v11 h5).bind fun v12 =>
  if v12 = 0 then
  (some ((1 : Int32), h5))
  else ((gR 0 0 x0 h5).bind fun v13 =>
  (gI 0 3 x0 h5).bind fun v14 =>
  (ldR 5 v13 v14 h5).bind fun v15 =>
  (mX5_copy x1 v15 h5).bind fun h17 =>
  some ((1 : Int32), h17)))
  else (some ((1 : Int32), h5))))
  else none

noncomputable def mX0_store (x0 : Nat) (x1 : Int32) (x2 : Nat) (h : Hp) : Option (Int32 × Hp) :=
  if (hpS h x0).1 = 1 then
  if x1 < 0 then
  (some ((0 : Int32), h))
  else ((gR 0 1 x0 h).bind fun v1 =>
  (aLen v1 h).bind fun v2 =>
  if x1 < v2 then
  ((gR 0 1 x0 h).bind fun v3 =>
  (ldR 5 v3 x1 h).bind fun v4 =>
  if v4 ≠ 0 then
  ((gR 0 1 x0 h).bind fun v5 =>
  (ldR 5 v5 x1 h).bind fun v6 =>
  (mX5_copy v6 x2 h).bind fun h8 =>
  (gI 0 2 x0 h8).bind fun v9 =>
  (sI 0 2 x0 (v9 ||| ((1 : Int32) <<< (x1 &&& 31))) h8).bind fun h10 =>
  some ((1 : Int32), h10))
  else (some ((0 : Int32), h)))
  else (some ((0 : Int32), h)))
  else none

noncomputable def mX11_has (x0 : Int32) (x1 : Int32) : Option Int32 :=
  if ((x0 >>> (x1 &&& 31)) &&& (1 : Int32)) = 0 then
  (some (0 : Int32))
  else (some (1 : Int32))

noncomputable def mX0_restore (x0 : Nat) (x1 : Int32) (x2 : Nat) (h : Hp) : Option (Int32 × Hp) :=
  if (hpS h x0).1 = 1 then
  if x1 < 0 then
  (some ((0 : Int32), h))
  else ((gR 0 1 x0 h).bind fun v1 =>
  (aLen v1 h).bind fun v2 =>
  if x1 < v2 then
  ((gR 0 1 x0 h).bind fun v3 =>
  (ldR 5 v3 x1 h).bind fun v4 =>
  if v4 = 0 then
  (some ((0 : Int32), h))
  else ((gI 0 2 x0 h).bind fun v5 =>
  (mX11_has v5 x1).bind fun v6 =>
  if v6 = 0 then
  (some ((0 : Int32), h))
  else ((mX0_note x0 x2 h).bind fun h9 =>
  (gR 0 1 x0 h9).bind fun v10 =>
  (ldR 5 v10 x1 h9).bind fun v11 =>
  (mX5_copy x2 v11 h9).bind fun h13 =>
  some ((1 : Int32), h13))))
  else (some ((0 : Int32), h)))
  else none

noncomputable def mX10_init (x0 : Nat) (h : Hp) : Option Hp :=
  b2 (newA 51 4 h) fun v2 h1 =>
  (sR 10 0 x0 v2 h1).bind fun h3 =>
  some h3

noncomputable def mX1_init_l116f (x0 : Nat) (x1 : Int32) (h : Hp) : Option ((Int32 × Hp) ⊕ Hp) :=
  (gR 1 18 x0 h).bind fun v44 =>
  (aLen v44 h).bind fun v45 =>
  if x1 < v45 then
  ((gR 1 18 x0 h).bind fun v46 =>
  b2 (newO 10 1 h) fun v48 h47 =>
  (mX10_init v48 h47).bind fun h50 =>
  (stR 10 v46 x1 v48 h50).bind fun h51 =>
  some (.inl ((x1 + (1 : Int32)), h51)))
  else (xt (some h))
noncomputable def mX1_init_l116 (x0 : Nat) (x1 : Int32) (h : Hp) : Option Hp :=
  lp (fun s : (Int32 × Hp) => mX1_init_l116f x0 s.1 s.2) (x1, h)
noncomputable def mX1_init (x0 : Nat) (h : Hp) : Option Hp :=
  b2 (newA 50 8 h) fun v2 h1 =>
  (sR 1 6 x0 v2 h1).bind fun h3 =>
  b2 (newA 50 13 h3) fun v5 h4 =>
  (sR 1 7 x0 v5 h4).bind fun h6 =>
  b2 (newA 50 5 h6) fun v8 h7 =>
  (sR 1 8 x0 v8 h7).bind fun h9 =>
  b2 (newA 50 6 h9) fun v11 h10 =>
  (sR 1 9 x0 v11 h10).bind fun h12 =>
  b2 (newA 50 5 h12) fun v14 h13 =>
  (sR 1 10 x0 v14 h13).bind fun h15 =>
  b2 (newA 50 5 h15) fun v17 h16 =>
  (sR 1 11 x0 v17 h16).bind fun h18 =>
  b2 (newA 50 960 h18) fun v20 h19 =>
  (sR 1 12 x0 v20 h19).bind fun h21 =>
  b2 (newA 50 26 h21) fun v23 h22 =>
  (sR 1 14 x0 v23 h22).bind fun h24 =>
  b2 (newA 50 26 h24) fun v26 h25 =>
  (sR 1 15 x0 v26 h25).bind fun h27 =>
  b2 (newA 50 256 h27) fun v29 h28 =>
  (sR 1 16 x0 v29 h28).bind fun h30 =>
  b2 (newO 10 1 h30) fun v32 h31 =>
  (mX10_init v32 h31).bind fun h34 =>
  (sR 1 17 x0 v32 h34).bind fun h35 =>
  b2 (newA 70 31 h35) fun v37 h36 =>
  (sR 1 18 x0 v37 h36).bind fun h38 =>
  b2 (newO 10 1 h38) fun v40 h39 =>
  (mX10_init v40 h39).bind fun h42 =>
  (sR 1 19 x0 v40 h42).bind fun h43 =>
  mX1_init_l116 x0 (0 : Int32) h43

noncomputable def mX11_wipe_l2f (x0 : Nat) (x1 : Int32) (h : Hp) : Option ((Int32 × Hp) ⊕ Hp) :=
  (aLen x0 h).bind fun v1 =>
  if x1 < v1 then
  ((stI x0 x1 (0 : Int32) h).bind fun h2 =>
  some (.inl ((x1 + (1 : Int32)), h2)))
  else (xt (some h))
noncomputable def mX11_wipe_l2 (x0 : Nat) (x1 : Int32) (h : Hp) : Option Hp :=
  lp (fun s : (Int32 × Hp) => mX11_wipe_l2f x0 s.1 s.2) (x1, h)
noncomputable def mX11_wipe (x0 : Nat) (h : Hp) : Option Hp :=
  mX11_wipe_l2 x0 (0 : Int32) h

noncomputable def mX10_fill_l2f (x0 : Nat) (x1 : Int32) (h : Hp) : Option ((Int32 × Hp) ⊕ Hp) :=
  (gR 10 0 x0 h).bind fun v1 =>
  (aLen v1 h).bind fun v2 =>
  if x1 < v2 then
  ((gR 10 0 x0 h).bind fun v3 =>
  (stL v3 x1 (-1 : Int64) h).bind fun h4 =>
  some (.inl ((x1 + (1 : Int32)), h4)))
  else (xt (some h))
noncomputable def mX10_fill_l2 (x0 : Nat) (x1 : Int32) (h : Hp) : Option Hp :=
  lp (fun s : (Int32 × Hp) => mX10_fill_l2f x0 s.1 s.2) (x1, h)
noncomputable def mX10_fill (x0 : Nat) (h : Hp) : Option Hp :=
  if (hpS h x0).1 = 11 then
  mX10_fill_l2 x0 (0 : Int32) h
  else none

noncomputable def mX1_clear (x0 : Nat) (h : Hp) : Option Hp :=
  if (hpS h x0).1 = 2 then
  (sI 1 0 x0 (0 : Int32) h).bind fun h1 =>
  (sI 1 1 x0 (0 : Int32) h1).bind fun h2 =>
  (sI 1 2 x0 (0 : Int32) h2).bind fun h3 =>
  (sI 1 3 x0 (0 : Int32) h3).bind fun h4 =>
  (sI 1 4 x0 (0 : Int32) h4).bind fun h5 =>
  (sI 1 5 x0 (0 : Int32) h5).bind fun h6 =>
  (sI 1 13 x0 (0 : Int32) h6).bind fun h7 =>
  (gR 1 8 x0 h7).bind fun v8 =>
  (mX11_wipe v8 h7).bind fun h10 =>
  (gR 1 10 x0 h10).bind fun v11 =>
  (mX11_wipe v11 h10).bind fun h13 =>
  (gR 1 14 x0 h13).bind fun v14 =>
  (mX11_wipe v14 h13).bind fun h16 =>
  (gR 1 15 x0 h16).bind fun v17 =>
  (mX11_wipe v17 h16).bind fun h19 =>
  (gR 1 17 x0 h19).bind fun v20 =>
  (mX10_fill v20 h19).bind fun h22 =>
  some h22
  else none

noncomputable def mX10_soIn_b18 (x0 : Int32) (x1 : Int32) (h : Hp) : Option Int64 :=
  (aLen 2 h).bind fun v1 =>
  if ((x1 >>> ((x0 - v1) &&& 31)) &&& (1 : Int32)) = 0 then
  (some (0 : Int64))
  else (some (-1 : Int64))
noncomputable def mX10_soIn (x0 : Int32) (x1 : Int32) (h : Hp) : Option Int64 :=
  if x0 < 0 then
  (mX10_soIn_b18 x0 x1 h)
  else ((aLen 2 h).bind fun v2 =>
  if x0 < v2 then
  ((ldL 2 x0 h).bind fun v3 =>
  some v3)
  else (mX10_soIn_b18 x0 x1 h))

noncomputable def mX10_agree_b72 (x0 : Nat) (x1 : Int32) (x2 : Int32) (x3 : Int32) (h : Hp) : Option ((Int32 × Hp) ⊕ Hp) :=
  some (.inl ((x3 + (1 : Int32)), h))
noncomputable def mX10_agree_b64 (x0 : Nat) (x1 : Int32) (x2 : Int32) (x3 : Int32) (x4 : Int32) (t0 : Nat) (t1 : Int32) (t2 : Int64) (t3 : Int64) (h : Hp) : Option ((Int32 × Hp) ⊕ ((Int32 × Hp) ⊕ Hp)) :=
  (stL t0 t1 (t2 &&& t3) h).bind fun h11 =>
  some (.inl ((x4 + (1 : Int32)), h11))
noncomputable def mX10_agree_l11f (x0 : Nat) (x1 : Int32) (x2 : Int32) (x3 : Int32) (x4 : Int32) (h : Hp) : Option ((Int32 × Hp) ⊕ ((Int32 × Hp) ⊕ Hp)) :=
  (gR 10 0 x0 h).bind fun v1 =>
  (aLen v1 h).bind fun v2 =>
  if x4 < v2 then
  ((mX11_has x1 x3).bind fun v3 =>
  if v3 = 0 then
  (xt (mX10_agree_b72 x0 x1 x2 x3 h))
  else ((gR 10 0 x0 h).bind fun v5 =>
  (ldL v5 x4 h).bind fun v6 =>
  (mX11_has x2 x3).bind fun v7 =>
  if v7 = 0 then
  ((mX10_soIn x3 x4 h).bind fun v9 =>
  mX10_agree_b64 x0 x1 x2 x3 x4 v5 x4 v6 (v9 ^^^ (-1 : Int64)) h)
  else ((mX10_soIn x3 x4 h).bind fun v12 =>
  mX10_agree_b64 x0 x1 x2 x3 x4 v5 x4 v6 v12 h)))
  else (xt (mX10_agree_b72 x0 x1 x2 x3 h))
noncomputable def mX10_agree_l11 (x0 : Nat) (x1 : Int32) (x2 : Int32) (x3 : Int32) (x4 : Int32) (h : Hp) : Option ((Int32 × Hp) ⊕ Hp) :=
  lp (fun s : (Int32 × Hp) => mX10_agree_l11f x0 x1 x2 x3 s.1 s.2) (x4, h)
noncomputable def mX10_agree_l2f (x0 : Nat) (x1 : Int32) (x2 : Int32) (x3 : Int32) (h : Hp) : Option ((Int32 × Hp) ⊕ Hp) :=
  if x3 < (8 : Int32) then
  (mX10_agree_l11 x0 x1 x2 x3 (0 : Int32) h)
  else (xt (some h))
noncomputable def mX10_agree_l2 (x0 : Nat) (x1 : Int32) (x2 : Int32) (x3 : Int32) (h : Hp) : Option Hp :=
  lp (fun s : (Int32 × Hp) => mX10_agree_l2f x0 x1 x2 s.1 s.2) (x3, h)
noncomputable def mX10_agree (x0 : Nat) (x1 : Int32) (x2 : Int32) (h : Hp) : Option Hp :=
  if (hpS h x0).1 = 11 then
  mX10_agree_l2 x0 x1 x2 (0 : Int32) h
  else none

noncomputable def mX10_keepFirst (x0 : Nat) (x1 : Int32) (h : Hp) : Option Hp :=
  if (hpS h x0).1 = 11 then
  (mX10_agree x0 ((-1 : Int32) <<< (x1 &&& 31)) (0 : Int32) h).bind fun h2 =>
  some h2
  else none

noncomputable def mX11_at (x0 : Nat) (x1 : Int32) (h : Hp) : Option Int32 :=
  if x1 < 0 then
  (some (0 : Int32))
  else ((aLen x0 h).bind fun v1 =>
  if x1 < v1 then
  ((ldI x0 x1 h).bind fun v2 =>
  some v2)
  else (some (0 : Int32)))

noncomputable def mX1_table_b22 (x0 : Nat) (h : Hp) : Option Nat :=
  (gR 1 19 x0 h).bind fun v1 =>
  some v1
noncomputable def mX1_table (x0 : Nat) (x1 : Int32) (h : Hp) : Option Nat :=
  if (hpS h x0).1 = 2 then
  if x1 < 0 then
  (mX1_table_b22 x0 h)
  else ((gR 1 18 x0 h).bind fun v2 =>
  (aLen v2 h).bind fun v3 =>
  if x1 < v3 then
  ((gR 1 18 x0 h).bind fun v4 =>
  (ldR 10 v4 x1 h).bind fun v5 =>
  if v5 ≠ 0 then
  ((gR 1 18 x0 h).bind fun v6 =>
  (ldR 10 v6 x1 h).bind fun v7 =>
  some v7)
  else (mX1_table_b22 x0 h))
  else (mX1_table_b22 x0 h))
  else none

noncomputable def mX4_replace_b62 (x0 : Nat) (h : Hp) : Option Hp :=
  (gI 4 3 x0 h).bind fun v4 =>
  (sI 4 3 x0 (v4 + (1 : Int32)) h).bind fun h5 =>
  some h5
noncomputable def mX4_replace (x0 : Nat) (x1 : Int32) (x2 : Int64) (x4 : Int64) (h : Hp) : Option Hp :=
  if (hpS h x0).1 = 5 then
  (gI 4 3 x0 h).bind fun v1 =>
  (sI 4 3 x0 (v1 - x1) h).bind fun h2 =>
  (gI 4 3 x0 h2).bind fun v3 =>
  if v3 < 0 then
  (mX4_replace_b62 x0 h2)
  else ((gI 4 3 x0 h2).bind fun v6 =>
  (gR 4 0 x0 h2).bind fun v7 =>
  (aLen v7 h2).bind fun v8 =>
  if v6 < v8 then
  ((gI 4 3 x0 h2).bind fun v9 =>
  (gR 4 1 x0 h2).bind fun v10 =>
  (aLen v10 h2).bind fun v11 =>
  if v9 < v11 then
  ((gR 4 0 x0 h2).bind fun v12 =>
  (gI 4 3 x0 h2).bind fun v13 =>
  (stL v12 v13 x2 h2).bind fun h14 =>
  (gR 4 1 x0 h14).bind fun v15 =>
  (gI 4 3 x0 h14).bind fun v16 =>
  (stL v15 v16 x4 h14).bind fun h17 =>
  mX4_replace_b62 x0 h17)
  else (mX4_replace_b62 x0 h2))
  else (mX4_replace_b62 x0 h2))
  else none

noncomputable def mX4_leafYes (x0 : Nat) (x1 : Int32) (h : Hp) : Option Int64 :=
  if (hpS h x0).1 = 5 then
  (gI 4 4 x0 h).bind fun v1 =>
  if v1 = (-1 : Int32) then
  ((gI 4 5 x0 h).bind fun v5 =>
  (gI 4 6 x0 h).bind fun v6 =>
  (mX11_has (v5 &&& v6) x1).bind fun v7 =>
  if v7 = 0 then
  (some (0 : Int64))
  else (some (-1 : Int64)))
  else ((gI 4 4 x0 h).bind fun v2 =>
  (mX10_soIn x1 v2 h).bind fun v3 =>
  some v3)
  else none

noncomputable def mX4_leafNo (x0 : Nat) (x1 : Int32) (h : Hp) : Option Int64 :=
  if (hpS h x0).1 = 5 then
  (gI 4 4 x0 h).bind fun v1 =>
  if v1 = (-1 : Int32) then
  ((gI 4 5 x0 h).bind fun v5 =>
  (gI 4 6 x0 h).bind fun v6 =>
  (mX11_has (v5 &&& (v6 ^^^ (-1 : Int32))) x1).bind fun v7 =>
  if v7 = 0 then
  (some (0 : Int64))
  else (some (-1 : Int64)))
  else ((gI 4 4 x0 h).bind fun v2 =>
  (mX10_soIn x1 v2 h).bind fun v3 =>
  some (v3 ^^^ (-1 : Int64)))
  else none

noncomputable def mX4_top (x0 : Nat) (x1 : Nat) (x2 : Int32) (h : Hp) : Option Int64 :=
  if (hpS h x0).1 = 5 then
  (gI 4 3 x0 h).bind fun v1 =>
  if ((v1 - (1 : Int32)) - x2) < 0 then
  (some (0 : Int64))
  else ((aLen x1 h).bind fun v2 =>
  if ((v1 - (1 : Int32)) - x2) < v2 then
  ((ldL x1 ((v1 - (1 : Int32)) - x2) h).bind fun v3 =>
  some v3)
  else (some (0 : Int64)))
  else none

noncomputable def mX11_longAt (x0 : Nat) (x1 : Int32) (h : Hp) : Option Int64 :=
  if x1 < 0 then
  (some (0 : Int64))
  else ((aLen x0 h).bind fun v1 =>
  if x1 < v1 then
  ((ldL x0 x1 h).bind fun v2 =>
  some v2)
  else (some (0 : Int64)))

noncomputable def mX4_atLeast_l80f (x0 : Nat) (x1 : Int32) (x2 : Nat) (x3 : Int32) (x4 : Int32) (x5 : Int64) (x7 : Int32) (h : Hp) : Option ((Int32 × Hp) ⊕ ((Int32 × Hp) ⊕ (Int64 × Hp))) :=
  if 0 < x7 then
  ((gR 4 2 x0 h).bind fun v10 =>
  (ldL v10 x7 h).bind fun v11 =>
  (gR 4 2 x0 h).bind fun v12 =>
  (ldL v12 (x7 - (1 : Int32)) h).bind fun v13 =>
  (stL v10 x7 (v11 ||| (v13 &&& x5)) h).bind fun h14 =>
  some (.inl ((x7 + (-1 : Int32)), h14)))
  else (xt (some (.inl ((x4 + (1 : Int32)), h))))
noncomputable def mX4_atLeast_l80 (x0 : Nat) (x1 : Int32) (x2 : Nat) (x3 : Int32) (x4 : Int32) (x5 : Int64) (x7 : Int32) (h : Hp) : Option ((Int32 × Hp) ⊕ (Int64 × Hp)) :=
  lp (fun s : (Int32 × Hp) => mX4_atLeast_l80f x0 x1 x2 x3 x4 x5 s.1 s.2) (x7, h)
noncomputable def mX4_atLeast_l56f (x0 : Nat) (x1 : Int32) (x2 : Nat) (x3 : Int32) (x4 : Int32) (h : Hp) : Option ((Int32 × Hp) ⊕ (Int64 × Hp)) :=
  if x4 < x3 then
  ((mX4_top x0 x2 x4 h).bind fun v6 =>
  (gR 4 2 x0 h).bind fun v8 =>
  (aLen v8 h).bind fun v9 =>
  mX4_atLeast_l80 x0 x1 x2 x3 x4 v6 (v9 - (1 : Int32)) h)
  else (xt ((gR 4 2 x0 h).bind fun v3 =>
  (mX11_longAt v3 x1 h).bind fun v4 =>
  some (v4, h)))
noncomputable def mX4_atLeast_l56 (x0 : Nat) (x1 : Int32) (x2 : Nat) (x3 : Int32) (x4 : Int32) (h : Hp) : Option (Int64 × Hp) :=
  lp (fun s : (Int32 × Hp) => mX4_atLeast_l56f x0 x1 x2 x3 s.1 s.2) (x4, h)
noncomputable def mX4_atLeast_b46 (x0 : Nat) (x1 : Int32) (x2 : Nat) (x3 : Int32) (x4 : Int32) (t0 : Nat) (t1 : Int32) (t2 : Int64) (h : Hp) : Option ((Int32 × Hp) ⊕ (Int64 × Hp)) :=
  (stL t0 t1 t2 h).bind fun h16 =>
  some (.inl ((x4 + (1 : Int32)), h16))
noncomputable def mX4_atLeast_l18f (x0 : Nat) (x1 : Int32) (x2 : Nat) (x3 : Int32) (x4 : Int32) (h : Hp) : Option ((Int32 × Hp) ⊕ (Int64 × Hp)) :=
  (gR 4 2 x0 h).bind fun v1 =>
  (aLen v1 h).bind fun v2 =>
  if x4 < v2 then
  ((gR 4 2 x0 h).bind fun v15 =>
  if x4 = 0 then
  (mX4_atLeast_b46 x0 x1 x2 x3 x4 v15 x4 (-1 : Int64) h)
  else (mX4_atLeast_b46 x0 x1 x2 x3 x4 v15 x4 (0 : Int64) h))
  else (xt (mX4_atLeast_l56 x0 x1 x2 x3 (0 : Int32) h))
noncomputable def mX4_atLeast_l18 (x0 : Nat) (x1 : Int32) (x2 : Nat) (x3 : Int32) (x4 : Int32) (h : Hp) : Option (Int64 × Hp) :=
  lp (fun s : (Int32 × Hp) => mX4_atLeast_l18f x0 x1 x2 x3 s.1 s.2) (x4, h)
noncomputable def mX4_atLeast (x0 : Nat) (x1 : Int32) (x2 : Nat) (x3 : Int32) (h : Hp) : Option (Int64 × Hp) :=
  if (hpS h x0).1 = 5 then
  if 0 < x1 then
  (if x3 < x1 then
  (some ((0 : Int64), h))
  else (mX4_atLeast_l18 x0 x1 x2 x3 (0 : Int32) h))
  else (some ((-1 : Int64), h))
  else none

noncomputable def mX4_run_b264 (x0 : Nat) (x1 : Nat) (x3 : Int32) (x4 : Int32) (h : Hp) : Option ((Int32 × Hp) ⊕ Hp) :=
  some (.inl ((x4 + (1 : Int32)), h))
noncomputable def mX4_run_l20f (x0 : Nat) (x1 : Nat) (x3 : Int32) (x4 : Int32) (h : Hp) : Option ((Int32 × Hp) ⊕ Hp) :=
  if x4 < 0 then
  (xt (some h))
  else (if x4 < x3 then
  ((aLen x1 h).bind fun v5 =>
  if x4 < v5 then
  ((ldI x1 x4 h).bind fun v6 =>
  if v6 < (8 : Int32) then
  ((mX4_leafYes x0 v6 h).bind fun v51 =>
  (mX4_leafNo x0 v6 h).bind fun v53 =>
  (mX4_replace x0 (0 : Int32) v51 v53 h).bind fun h56 =>
  mX4_run_b264 x0 x1 x3 x4 h56)
  else (if v6 = (8 : Int32) then
  ((gR 4 1 x0 h).bind fun v43 =>
  (mX4_top x0 v43 (0 : Int32) h).bind fun v44 =>
  (gR 4 0 x0 h).bind fun v46 =>
  (mX4_top x0 v46 (0 : Int32) h).bind fun v47 =>
  (mX4_replace x0 (1 : Int32) v44 v47 h).bind fun h50 =>
  mX4_run_b264 x0 x1 x3 x4 h50)
  else (if v6 = (9 : Int32) then
  ((gR 4 0 x0 h).bind fun v29 =>
  (mX4_top x0 v29 (1 : Int32) h).bind fun v30 =>
  (gR 4 0 x0 h).bind fun v32 =>
  (mX4_top x0 v32 (0 : Int32) h).bind fun v33 =>
  (gR 4 1 x0 h).bind fun v35 =>
  (mX4_top x0 v35 (1 : Int32) h).bind fun v36 =>
  (gR 4 1 x0 h).bind fun v38 =>
  (mX4_top x0 v38 (0 : Int32) h).bind fun v39 =>
  (mX4_replace x0 (2 : Int32) (v30 &&& v33) (v36 ||| v39) h).bind fun h42 =>
  mX4_run_b264 x0 x1 x3 x4 h42)
  else (if v6 = (10 : Int32) then
  ((gR 4 0 x0 h).bind fun v15 =>
  (mX4_top x0 v15 (1 : Int32) h).bind fun v16 =>
  (gR 4 0 x0 h).bind fun v18 =>
  (mX4_top x0 v18 (0 : Int32) h).bind fun v19 =>
  (gR 4 1 x0 h).bind fun v21 =>
  (mX4_top x0 v21 (1 : Int32) h).bind fun v22 =>
  (gR 4 1 x0 h).bind fun v24 =>
  (mX4_top x0 v24 (0 : Int32) h).bind fun v25 =>
  (mX4_replace x0 (2 : Int32) (v16 ||| v19) (v22 &&& v25) h).bind fun h28 =>
  mX4_run_b264 x0 x1 x3 x4 h28)
  else ((gR 4 0 x0 h).bind fun v7 =>
  b2 (mX4_atLeast x0 ((v6 - (16 : Int32)) >>> ((3 : Int32) &&& 31)) v7 ((v6 - (16 : Int32)) &&& (7 : Int32)) h) fun v8 h9 =>
  (gR 4 1 x0 h9).bind fun v10 =>
  b2 (mX4_atLeast x0 ((((v6 - (16 : Int32)) &&& (7 : Int32)) - ((v6 - (16 : Int32)) >>> ((3 : Int32) &&& 31))) + (1 : Int32)) v10 ((v6 - (16 : Int32)) &&& (7 : Int32)) h9) fun v11 h12 =>
  (mX4_replace x0 ((v6 - (16 : Int32)) &&& (7 : Int32)) v8 v11 h12).bind fun h14 =>
  mX4_run_b264 x0 x1 x3 x4 h14)))))
  else (xt (some h)))
  else (xt (some h)))
noncomputable def mX4_run_l20 (x0 : Nat) (x1 : Nat) (x3 : Int32) (x4 : Int32) (h : Hp) : Option Hp :=
  lp (fun s : (Int32 × Hp) => mX4_run_l20f x0 x1 x3 s.1 s.2) (x4, h)
noncomputable def mX4_run (x0 : Nat) (x1 : Nat) (x2 : Int32) (x3 : Int32) (h : Hp) : Option Hp :=
  if (hpS h x0).1 = 5 then
  (sI 4 3 x0 (0 : Int32) h).bind fun h1 =>
  (mX4_replace x0 (0 : Int32) (0 : Int64) (0 : Int64) h1).bind fun h3 =>
  (sI 4 3 x0 (0 : Int32) h3).bind fun h4 =>
  mX4_run_l20 x0 x1 x3 x2 h4
  else none

noncomputable def mX11_putLong (x0 : Nat) (x1 : Int32) (x2 : Int64) (h : Hp) : Option Hp :=
  if x1 < 0 then
  (some h)
  else ((aLen x0 h).bind fun v1 =>
  if x1 < v1 then
  ((stL x0 x1 x2 h).bind fun h2 =>
  some h2)
  else (some h))

noncomputable def mX4_tabulate_l3f (x0 : Nat) (x1 : Nat) (x2 : Int32) (x3 : Int32) (x4 : Nat) (x5 : Int32) (h : Hp) : Option ((Int32 × Hp) ⊕ Hp) :=
  if x5 < (4 : Int32) then
  ((sI 4 4 x0 x5 h).bind fun h1 =>
  (mX4_run x0 x1 x2 x3 h1).bind fun h3 =>
  (gR 10 0 x4 h3).bind fun v4 =>
  (gR 4 0 x0 h3).bind fun v5 =>
  (mX11_longAt v5 (0 : Int32) h3).bind fun v6 =>
  (mX11_putLong v4 x5 v6 h3).bind fun h9 =>
  some (.inl ((x5 + (1 : Int32)), h9)))
  else (xt (some h))
noncomputable def mX4_tabulate_l3 (x0 : Nat) (x1 : Nat) (x2 : Int32) (x3 : Int32) (x4 : Nat) (x5 : Int32) (h : Hp) : Option Hp :=
  lp (fun s : (Int32 × Hp) => mX4_tabulate_l3f x0 x1 x2 x3 x4 s.1 s.2) (x5, h)
noncomputable def mX4_tabulate (x0 : Nat) (x1 : Nat) (x2 : Int32) (x3 : Int32) (x4 : Nat) (h : Hp) : Option Hp :=
  if (hpS h x0).1 = 5 then
  mX4_tabulate_l3 x0 x1 x2 x3 x4 (0 : Int32) h
  else none

noncomputable def mX1_wonBy (x0 : Nat) (x1 : Int32) (h : Hp) : Option Nat :=
  if (hpS h x0).1 = 2 then
  (mX1_table x0 ((26 : Int32) + x1) h).bind fun v1 =>
  some v1
  else none

noncomputable def mX11_needSlot (x0 : Int32) (x1 : Int32) : Option Int32 :=
  some (((4 : Int32) * x0) + x1)

noncomputable def mX10_and_l2f (x0 : Nat) (x1 : Nat) (x2 : Int32) (h : Hp) : Option ((Int32 × Hp) ⊕ Hp) :=
  (gR 10 0 x0 h).bind fun v1 =>
  (aLen v1 h).bind fun v2 =>
  if x2 < v2 then
  ((gR 10 0 x1 h).bind fun v3 =>
  (aLen v3 h).bind fun v4 =>
  if x2 < v4 then
  ((gR 10 0 x0 h).bind fun v5 =>
  (ldL v5 x2 h).bind fun v6 =>
  (gR 10 0 x1 h).bind fun v7 =>
  (ldL v7 x2 h).bind fun v8 =>
  (stL v5 x2 (v6 &&& v8) h).bind fun h9 =>
  some (.inl ((x2 + (1 : Int32)), h9)))
  else (xt (some h)))
  else (xt (some h))
noncomputable def mX10_and_l2 (x0 : Nat) (x1 : Nat) (x2 : Int32) (h : Hp) : Option Hp :=
  lp (fun s : (Int32 × Hp) => mX10_and_l2f x0 x1 s.1 s.2) (x2, h)
noncomputable def mX10_and (x0 : Nat) (x1 : Nat) (h : Hp) : Option Hp :=
  if (hpS h x0).1 = 11 then
  mX10_and_l2 x0 x1 (0 : Int32) h
  else none

noncomputable def mX10_minus_l2f (x0 : Nat) (x1 : Nat) (x2 : Int32) (h : Hp) : Option ((Int32 × Hp) ⊕ Hp) :=
  (gR 10 0 x0 h).bind fun v1 =>
  (aLen v1 h).bind fun v2 =>
  if x2 < v2 then
  ((gR 10 0 x1 h).bind fun v3 =>
  (aLen v3 h).bind fun v4 =>
  if x2 < v4 then
  ((gR 10 0 x0 h).bind fun v5 =>
  (ldL v5 x2 h).bind fun v6 =>
  (gR 10 0 x1 h).bind fun v7 =>
  (ldL v7 x2 h).bind fun v8 =>
  (stL v5 x2 (v6 &&& (v8 ^^^ (-1 : Int64))) h).bind fun h9 =>
  some (.inl ((x2 + (1 : Int32)), h9)))
  else (xt (some h)))
  else (xt (some h))
noncomputable def mX10_minus_l2 (x0 : Nat) (x1 : Nat) (x2 : Int32) (h : Hp) : Option Hp :=
  lp (fun s : (Int32 × Hp) => mX10_minus_l2f x0 x1 s.1 s.2) (x2, h)
noncomputable def mX10_minus (x0 : Nat) (x1 : Nat) (h : Hp) : Option Hp :=
  if (hpS h x0).1 = 11 then
  mX10_minus_l2 x0 x1 (0 : Int32) h
  else none

noncomputable def mX1_finishWon_b71 (x0 : Nat) (x1 : Int32) (x2 : Nat) (x3 : Int32) (h : Hp) : Option ((Int32 × Hp) ⊕ Hp) :=
  some (.inl ((x3 + (1 : Int32)), h))
noncomputable def mX1_finishWon_l39f (x0 : Nat) (x1 : Int32) (x2 : Nat) (x3 : Int32) (h : Hp) : Option ((Int32 × Hp) ⊕ Hp) :=
  (gI 1 4 x0 h).bind fun v6 =>
  if x3 < v6 then
  ((gR 1 9 x0 h).bind fun v7 =>
  (mX11_at v7 x3 h).bind fun v8 =>
  if v8 = x1 then
  ((mX1_table x0 ((20 : Int32) + x3) h).bind fun v10 =>
  (mX10_minus x2 v10 h).bind fun h13 =>
  mX1_finishWon_b71 x0 x1 x2 x3 h13)
  else (mX1_finishWon_b71 x0 x1 x2 x3 h))
  else (xt (some h))
noncomputable def mX1_finishWon_l39 (x0 : Nat) (x1 : Int32) (x2 : Nat) (x3 : Int32) (h : Hp) : Option Hp :=
  lp (fun s : (Int32 × Hp) => mX1_finishWon_l39f x0 x1 x2 s.1 s.2) (x3, h)
noncomputable def mX1_finishWon_l6f (x0 : Nat) (x1 : Int32) (x2 : Nat) (x3 : Int32) (h : Hp) : Option ((Int32 × Hp) ⊕ Hp) :=
  (gR 1 8 x0 h).bind fun v3 =>
  (mX11_at v3 x1 h).bind fun v4 =>
  if x3 < v4 then
  ((mX11_needSlot x1 x3).bind fun v14 =>
  (mX1_table x0 v14 h).bind fun v16 =>
  (mX10_and x2 v16 h).bind fun h19 =>
  some (.inl ((x3 + (1 : Int32)), h19)))
  else (xt (mX1_finishWon_l39 x0 x1 x2 (0 : Int32) h))
noncomputable def mX1_finishWon_l6 (x0 : Nat) (x1 : Int32) (x2 : Nat) (x3 : Int32) (h : Hp) : Option Hp :=
  lp (fun s : (Int32 × Hp) => mX1_finishWon_l6f x0 x1 x2 s.1 s.2) (x3, h)
noncomputable def mX1_finishWon (x0 : Nat) (x1 : Int32) (x2 : Nat) (h : Hp) : Option Hp :=
  if (hpS h x0).1 = 2 then
  (mX10_fill x2 h).bind fun h2 =>
  mX1_finishWon_l6 x0 x1 x2 (0 : Int32) h2
  else none

noncomputable def mX1_weightOf_b43 (x0 : Nat) (x1 : Int32) (x3 : Int32) (t0 : Int32) (t1 : Int32) (h : Hp) : Option ((Int32 × Int32) ⊕ Int32) :=
  some (.inl ((t0 * t1), (x3 + (1 : Int32))))
noncomputable def mX1_weightOf_l4f (x0 : Nat) (x1 : Int32) (h : Hp) (x2 : Int32) (x3 : Int32) : Option ((Int32 × Int32) ⊕ Int32) :=
  (gI 1 1 x0 h).bind fun v1 =>
  if x3 < v1 then
  ((mX11_has x1 x3).bind fun v2 =>
  if v2 = 0 then
  ((gR 1 6 x0 h).bind fun v4 =>
  (mX11_at v4 x3 h).bind fun v5 =>
  mX1_weightOf_b43 x0 x1 x3 x2 ((10 : Int32) - v5) h)
  else ((gR 1 6 x0 h).bind fun v7 =>
  (mX11_at v7 x3 h).bind fun v8 =>
  mX1_weightOf_b43 x0 x1 x3 x2 v8 h))
  else (xt (some x2))
noncomputable def mX1_weightOf_l4 (x0 : Nat) (x1 : Int32) (x2 : Int32) (x3 : Int32) (h : Hp) : Option Int32 :=
  lp (fun s : (Int32 × Int32) => mX1_weightOf_l4f x0 x1 h s.1 s.2) (x2, x3)
noncomputable def mX1_weightOf (x0 : Nat) (x1 : Int32) (h : Hp) : Option Int32 :=
  if (hpS h x0).1 = 2 then
  mX1_weightOf_l4 x0 x1 (1 : Int32) (0 : Int32) h
  else none

noncomputable def mX11_put (x0 : Nat) (x1 : Int32) (x2 : Int32) (h : Hp) : Option Hp :=
  if x1 < 0 then
  (some h)
  else ((aLen x0 h).bind fun v1 =>
  if x1 < v1 then
  ((stI x0 x1 x2 h).bind fun h2 =>
  some h2)
  else (some h))

noncomputable def mX1_finish_l103f (x0 : Nat) (x2 : Int32) (h : Hp) : Option ((Int32 × Hp) ⊕ Hp) :=
  if x2 < (256 : Int32) then
  ((gR 1 16 x0 h).bind fun v9 =>
  (mX1_weightOf x0 x2 h).bind fun v10 =>
  (mX11_put v9 x2 v10 h).bind fun h13 =>
  some (.inl ((x2 + (1 : Int32)), h13)))
  else (xt (some h))
noncomputable def mX1_finish_l103 (x0 : Nat) (x2 : Int32) (h : Hp) : Option Hp :=
  lp (fun s : (Int32 × Hp) => mX1_finish_l103f x0 s.1 s.2) (x2, h)
noncomputable def mX1_finish_l77f (x0 : Nat) (x2 : Int32) (h : Hp) : Option ((Int32 × Hp) ⊕ Hp) :=
  (gI 1 2 x0 h).bind fun v8 =>
  if x2 < v8 then
  ((mX1_wonBy x0 x2 h).bind fun v14 =>
  (mX1_finishWon x0 x2 v14 h).bind fun h17 =>
  some (.inl ((x2 + (1 : Int32)), h17)))
  else (xt (mX1_finish_l103 x0 (0 : Int32) h))
noncomputable def mX1_finish_l77 (x0 : Nat) (x2 : Int32) (h : Hp) : Option Hp :=
  lp (fun s : (Int32 × Hp) => mX1_finish_l77f x0 s.1 s.2) (x2, h)
noncomputable def mX1_finish_l34f (x0 : Nat) (x1 : Nat) (x2 : Int32) (h : Hp) : Option ((Int32 × Hp) ⊕ Hp) :=
  if x2 < (26 : Int32) then
  ((gR 1 12 x0 h).bind fun v18 =>
  (gR 1 14 x0 h).bind fun v19 =>
  (mX11_at v19 x2 h).bind fun v20 =>
  (gR 1 15 x0 h).bind fun v22 =>
  (mX11_at v22 x2 h).bind fun v23 =>
  (mX1_table x0 x2 h).bind fun v25 =>
  (mX4_tabulate x1 v18 v20 v23 v25 h).bind fun h28 =>
  some (.inl ((x2 + (1 : Int32)), h28)))
  else (xt (mX1_finish_l77 x0 (0 : Int32) h))
noncomputable def mX1_finish_l34 (x0 : Nat) (x1 : Nat) (x2 : Int32) (h : Hp) : Option Hp :=
  lp (fun s : (Int32 × Hp) => mX1_finish_l34f x0 x1 s.1 s.2) (x2, h)
noncomputable def mX1_finish_b18 (x0 : Nat) (x1 : Nat) (t0 : Nat) (t1 : Int32) (h : Hp) : Option Hp :=
  (sI 1 5 t0 t1 h).bind fun h3 =>
  (gR 1 17 x0 h3).bind fun v4 =>
  (gI 1 1 x0 h3).bind fun v5 =>
  (mX10_keepFirst v4 v5 h3).bind fun h7 =>
  mX1_finish_l34 x0 x1 (0 : Int32) h7
noncomputable def mX1_finish (x0 : Nat) (x1 : Nat) (h : Hp) : Option Hp :=
  if (hpS h x0).1 = 2 then
  (gI 1 5 x0 h).bind fun v1 =>
  if v1 = 0 then
  (mX1_finish_b18 x0 x1 x0 (300 : Int32) h)
  else ((gI 1 5 x0 h).bind fun v2 =>
  mX1_finish_b18 x0 x1 x0 v2 h)
  else none

noncomputable def mX1_unite_b47 (x0 : Nat) (x1 : Int32) (x2 : Int32) (x3 : Int32) (h : Hp) : Option ((Int32 × Hp) ⊕ Hp) :=
  some (.inl ((x3 + (1 : Int32)), h))
noncomputable def mX1_unite_b34 (x0 : Nat) (x1 : Int32) (x2 : Int32) (x3 : Int32) (h : Hp) : Option ((Int32 × Hp) ⊕ Hp) :=
  (gR 1 11 x0 h).bind fun v5 =>
  (mX11_put v5 x3 (mmin x1 x2) h).bind fun h7 =>
  mX1_unite_b47 x0 x1 x2 x3 h7
noncomputable def mX1_unite_l2f (x0 : Nat) (x1 : Int32) (x2 : Int32) (x3 : Int32) (h : Hp) : Option ((Int32 × Hp) ⊕ Hp) :=
  (gI 1 2 x0 h).bind fun v1 =>
  if x3 < v1 then
  ((gR 1 11 x0 h).bind fun v2 =>
  (mX11_at v2 x3 h).bind fun v3 =>
  if v3 = x1 then
  (mX1_unite_b34 x0 x1 x2 x3 h)
  else ((gR 1 11 x0 h).bind fun v8 =>
  (mX11_at v8 x3 h).bind fun v9 =>
  if v9 = x2 then
  (mX1_unite_b34 x0 x1 x2 x3 h)
  else (mX1_unite_b47 x0 x1 x2 x3 h)))
  else (xt (some h))
noncomputable def mX1_unite_l2 (x0 : Nat) (x1 : Int32) (x2 : Int32) (x3 : Int32) (h : Hp) : Option Hp :=
  lp (fun s : (Int32 × Hp) => mX1_unite_l2f x0 x1 x2 s.1 s.2) (x3, h)
noncomputable def mX1_unite (x0 : Nat) (x1 : Int32) (x2 : Int32) (h : Hp) : Option Hp :=
  if (hpS h x0).1 = 2 then
  mX1_unite_l2 x0 x1 x2 (0 : Int32) h
  else none

noncomputable def mX1_emit (x0 : Nat) (x1 : Int32) (h : Hp) : Option Hp :=
  if (hpS h x0).1 = 2 then
  (gR 1 12 x0 h).bind fun v1 =>
  (gI 1 13 x0 h).bind fun v2 =>
  (mX11_put v1 v2 x1 h).bind fun h4 =>
  (gI 1 13 x0 h4).bind fun v5 =>
  (sI 1 13 x0 (v5 + (1 : Int32)) h4).bind fun h6 =>
  some h6
  else none

noncomputable def mX1_factNamed_l2f (x0 : Nat) (x1 : Int32) (h : Hp) (x2 : Int32) : Option (Int32 ⊕ Int32) :=
  (gI 1 1 x0 h).bind fun v1 =>
  if x2 < v1 then
  ((gR 1 7 x0 h).bind fun v2 =>
  (aLen v2 h).bind fun v3 =>
  if x2 < v3 then
  ((gR 1 7 x0 h).bind fun v4 =>
  (ldI v4 x2 h).bind fun v5 =>
  if v5 = x1 then
  (xt (some x2))
  else (some (.inl (x2 + (1 : Int32)))))
  else (xt (some (-1 : Int32))))
  else (xt (some (-1 : Int32)))
noncomputable def mX1_factNamed_l2 (x0 : Nat) (x1 : Int32) (x2 : Int32) (h : Hp) : Option Int32 :=
  lp (fun s : Int32 => mX1_factNamed_l2f x0 x1 h s) x2
noncomputable def mX1_factNamed (x0 : Nat) (x1 : Int32) (h : Hp) : Option Int32 :=
  if (hpS h x0).1 = 2 then
  mX1_factNamed_l2 x0 x1 (0 : Int32) h
  else none

noncomputable def mX1_countNamed_l3f (x0 : Nat) (x1 : Int32) (h : Hp) (x2 : Int32) : Option (Int32 ⊕ Int32) :=
  (gI 1 2 x0 h).bind fun v1 =>
  if x2 < ((8 : Int32) + v1) then
  ((gR 1 7 x0 h).bind fun v2 =>
  (aLen v2 h).bind fun v3 =>
  if x2 < v3 then
  ((gR 1 7 x0 h).bind fun v4 =>
  (ldI v4 x2 h).bind fun v5 =>
  if v5 = x1 then
  (xt (some (x2 - (8 : Int32))))
  else (some (.inl (x2 + (1 : Int32)))))
  else (xt (some (-1 : Int32))))
  else (xt (some (-1 : Int32)))
noncomputable def mX1_countNamed_l3 (x0 : Nat) (x1 : Int32) (x2 : Int32) (h : Hp) : Option Int32 :=
  lp (fun s : Int32 => mX1_countNamed_l3f x0 x1 h s) x2
noncomputable def mX1_countNamed (x0 : Nat) (x1 : Int32) (h : Hp) : Option Int32 :=
  if (hpS h x0).1 = 2 then
  mX1_countNamed_l3 x0 x1 (8 : Int32) h
  else none

noncomputable def mX1_pleasOf_b30 (x0 : Nat) (x1 : Int32) (x3 : Int32) (t0 : Int32) (t1 : Int32) (h : Hp) : Option ((Int32 × Int32) ⊕ Int32) :=
  some (.inl ((t0 + t1), (x3 + (1 : Int32))))
noncomputable def mX1_pleasOf_l4f (x0 : Nat) (x1 : Int32) (h : Hp) (x2 : Int32) (x3 : Int32) : Option ((Int32 × Int32) ⊕ Int32) :=
  (gI 1 4 x0 h).bind fun v1 =>
  if x3 < v1 then
  ((gR 1 9 x0 h).bind fun v2 =>
  (mX11_at v2 x3 h).bind fun v3 =>
  if v3 = x1 then
  (mX1_pleasOf_b30 x0 x1 x3 x2 (1 : Int32) h)
  else (mX1_pleasOf_b30 x0 x1 x3 x2 (0 : Int32) h))
  else (xt (some x2))
noncomputable def mX1_pleasOf_l4 (x0 : Nat) (x1 : Int32) (x2 : Int32) (x3 : Int32) (h : Hp) : Option Int32 :=
  lp (fun s : (Int32 × Int32) => mX1_pleasOf_l4f x0 x1 h s.1 s.2) (x2, x3)
noncomputable def mX1_pleasOf (x0 : Nat) (x1 : Int32) (h : Hp) : Option Int32 :=
  if (hpS h x0).1 = 2 then
  mX1_pleasOf_l4 x0 x1 (0 : Int32) (0 : Int32) h
  else none

noncomputable def mX10_within_l2f (x0 : Nat) (x1 : Nat) (h : Hp) (x2 : Int32) : Option (Int32 ⊕ Int32) :=
  (gR 10 0 x0 h).bind fun v1 =>
  (aLen v1 h).bind fun v2 =>
  if x2 < v2 then
  ((gR 10 0 x1 h).bind fun v3 =>
  (aLen v3 h).bind fun v4 =>
  if x2 < v4 then
  ((gR 10 0 x0 h).bind fun v5 =>
  (ldL v5 x2 h).bind fun v6 =>
  (gR 10 0 x1 h).bind fun v7 =>
  (ldL v7 x2 h).bind fun v8 =>
  if (lg_cmp (v6 &&& (v8 ^^^ (-1 : Int64))) (0 : Int64)) = 0 then
  (some (.inl (x2 + (1 : Int32))))
  else (xt (some (0 : Int32))))
  else (xt (some (1 : Int32))))
  else (xt (some (1 : Int32)))
noncomputable def mX10_within_l2 (x0 : Nat) (x1 : Nat) (x2 : Int32) (h : Hp) : Option Int32 :=
  lp (fun s : Int32 => mX10_within_l2f x0 x1 h s) x2
noncomputable def mX10_within (x0 : Nat) (x1 : Nat) (h : Hp) : Option Int32 :=
  if (hpS h x0).1 = 11 then
  mX10_within_l2 x0 x1 (0 : Int32) h
  else none

noncomputable def mX1_needsSure_l2f (x0 : Nat) (x1 : Int32) (x2 : Nat) (h : Hp) (x3 : Int32) : Option (Int32 ⊕ Int32) :=
  (gR 1 8 x0 h).bind fun v1 =>
  (mX11_at v1 x1 h).bind fun v2 =>
  if x3 < v2 then
  ((mX11_needSlot x1 x3).bind fun v4 =>
  (mX1_table x0 v4 h).bind fun v6 =>
  (mX10_within x2 v6 h).bind fun v8 =>
  if v8 = 0 then
  (xt (some (0 : Int32)))
  else (some (.inl (x3 + (1 : Int32)))))
  else (xt (some (1 : Int32)))
noncomputable def mX1_needsSure_l2 (x0 : Nat) (x1 : Int32) (x2 : Nat) (x3 : Int32) (h : Hp) : Option Int32 :=
  lp (fun s : Int32 => mX1_needsSure_l2f x0 x1 x2 h s) x3
noncomputable def mX1_needsSure (x0 : Nat) (x1 : Int32) (x2 : Nat) (h : Hp) : Option Int32 :=
  if (hpS h x0).1 = 2 then
  mX1_needsSure_l2 x0 x1 x2 (0 : Int32) h
  else none

noncomputable def mX10_meets_l2f (x0 : Nat) (x1 : Nat) (h : Hp) (x2 : Int32) : Option (Int32 ⊕ Int32) :=
  (gR 10 0 x0 h).bind fun v1 =>
  (aLen v1 h).bind fun v2 =>
  if x2 < v2 then
  ((gR 10 0 x1 h).bind fun v3 =>
  (aLen v3 h).bind fun v4 =>
  if x2 < v4 then
  ((gR 10 0 x0 h).bind fun v5 =>
  (ldL v5 x2 h).bind fun v6 =>
  (gR 10 0 x1 h).bind fun v7 =>
  (ldL v7 x2 h).bind fun v8 =>
  if (lg_cmp (v6 &&& v8) (0 : Int64)) = 0 then
  (some (.inl (x2 + (1 : Int32))))
  else (xt (some (1 : Int32))))
  else (xt (some (0 : Int32))))
  else (xt (some (0 : Int32)))
noncomputable def mX10_meets_l2 (x0 : Nat) (x1 : Nat) (x2 : Int32) (h : Hp) : Option Int32 :=
  lp (fun s : Int32 => mX10_meets_l2f x0 x1 h s) x2
noncomputable def mX10_meets (x0 : Nat) (x1 : Nat) (h : Hp) : Option Int32 :=
  if (hpS h x0).1 = 11 then
  mX10_meets_l2 x0 x1 (0 : Int32) h
  else none

noncomputable def mX1_needsMet_l2f (x0 : Nat) (x1 : Int32) (x2 : Nat) (h : Hp) (x3 : Int32) : Option (Int32 ⊕ Int32) :=
  (gR 1 8 x0 h).bind fun v1 =>
  (mX11_at v1 x1 h).bind fun v2 =>
  if x3 < v2 then
  ((mX11_needSlot x1 x3).bind fun v4 =>
  (mX1_table x0 v4 h).bind fun v6 =>
  (mX10_meets x2 v6 h).bind fun v8 =>
  if v8 = 0 then
  (xt (some (0 : Int32)))
  else (some (.inl (x3 + (1 : Int32)))))
  else (xt (some (1 : Int32)))
noncomputable def mX1_needsMet_l2 (x0 : Nat) (x1 : Int32) (x2 : Nat) (x3 : Int32) (h : Hp) : Option Int32 :=
  lp (fun s : Int32 => mX1_needsMet_l2f x0 x1 x2 h s) x3
noncomputable def mX1_needsMet (x0 : Nat) (x1 : Int32) (x2 : Nat) (h : Hp) : Option Int32 :=
  if (hpS h x0).1 = 2 then
  mX1_needsMet_l2 x0 x1 x2 (0 : Int32) h
  else none

noncomputable def mX1_barred_b39 (x0 : Nat) (x1 : Int32) (x2 : Nat) (x3 : Int32) (h : Hp) : Option (Int32 ⊕ Int32) :=
  some (.inl (x3 + (1 : Int32)))
noncomputable def mX1_barred_l2f (x0 : Nat) (x1 : Int32) (x2 : Nat) (h : Hp) (x3 : Int32) : Option (Int32 ⊕ Int32) :=
  (gI 1 4 x0 h).bind fun v1 =>
  if x3 < v1 then
  ((gR 1 9 x0 h).bind fun v2 =>
  (mX11_at v2 x3 h).bind fun v3 =>
  if v3 = x1 then
  ((mX1_table x0 ((20 : Int32) + x3) h).bind fun v5 =>
  (mX10_within x2 v5 h).bind fun v7 =>
  if v7 = 0 then
  (mX1_barred_b39 x0 x1 x2 x3 h)
  else (xt (some (1 : Int32))))
  else (mX1_barred_b39 x0 x1 x2 x3 h))
  else (xt (some (0 : Int32)))
noncomputable def mX1_barred_l2 (x0 : Nat) (x1 : Int32) (x2 : Nat) (x3 : Int32) (h : Hp) : Option Int32 :=
  lp (fun s : Int32 => mX1_barred_l2f x0 x1 x2 h s) x3
noncomputable def mX1_barred (x0 : Nat) (x1 : Int32) (x2 : Nat) (h : Hp) : Option Int32 :=
  if (hpS h x0).1 = 2 then
  mX1_barred_l2 x0 x1 x2 (0 : Int32) h
  else none

noncomputable def mX10_holds (x0 : Nat) (x1 : Int32) (h : Hp) : Option Int32 :=
  if (hpS h x0).1 = 11 then
  if (x1 >>> ((6 : Int32) &&& 31)) < 0 then
  (some (0 : Int32))
  else ((gR 10 0 x0 h).bind fun v1 =>
  (aLen v1 h).bind fun v2 =>
  if (x1 >>> ((6 : Int32) &&& 31)) < v2 then
  ((gR 10 0 x0 h).bind fun v3 =>
  (ldL v3 (x1 >>> ((6 : Int32) &&& 31)) h).bind fun v4 =>
  if (lg_cmp ((ushrL v4 (x1 &&& (63 : Int32))) &&& (1 : Int64)) (0 : Int64)) = 0 then
  (some (0 : Int32))
  else (some (1 : Int32)))
  else (some (0 : Int32)))
  else none

noncomputable def mX1_flawsAt_b110 (x0 : Nat) (x1 : Int32) (x2 : Int32) (x3 : Int32) (x4 : Int32) (h : Hp) : Option ((Int32 × Int32) ⊕ Int32) :=
  some (.inl (x3, (x4 + (1 : Int32))))
noncomputable def mX1_flawsAt_l65f (x0 : Nat) (x1 : Int32) (x2 : Int32) (h : Hp) (x3 : Int32) (x4 : Int32) : Option ((Int32 × Int32) ⊕ Int32) :=
  (gI 1 4 x0 h).bind fun v7 =>
  if x4 < v7 then
  ((gR 1 9 x0 h).bind fun v8 =>
  (mX11_at v8 x4 h).bind fun v9 =>
  if v9 = x1 then
  ((mX1_table x0 ((20 : Int32) + x4) h).bind fun v11 =>
  (mX10_holds v11 x2 h).bind fun v13 =>
  if v13 = 0 then
  (mX1_flawsAt_b110 x0 x1 x2 (x3 ||| ((4 : Int32) <<< (x4 &&& 31))) x4 h)
  else (mX1_flawsAt_b110 x0 x1 x2 x3 x4 h))
  else (mX1_flawsAt_b110 x0 x1 x2 x3 x4 h))
  else (xt (some x3))
noncomputable def mX1_flawsAt_l65 (x0 : Nat) (x1 : Int32) (x2 : Int32) (x3 : Int32) (x4 : Int32) (h : Hp) : Option Int32 :=
  lp (fun s : (Int32 × Int32) => mX1_flawsAt_l65f x0 x1 x2 h s.1 s.2) (x3, x4)
noncomputable def mX1_flawsAt_b54 (x0 : Nat) (x1 : Int32) (x2 : Int32) (x4 : Int32) (t0 : Int32) (t1 : Int32) (h : Hp) : Option ((Int32 × Int32) ⊕ Int32) :=
  some (.inl ((t0 ||| t1), (x4 + (1 : Int32))))
noncomputable def mX1_flawsAt_l18f (x0 : Nat) (x1 : Int32) (x2 : Int32) (h : Hp) (x3 : Int32) (x4 : Int32) : Option ((Int32 × Int32) ⊕ Int32) :=
  (gR 1 8 x0 h).bind fun v4 =>
  (mX11_at v4 x1 h).bind fun v5 =>
  if x4 < v5 then
  ((mX11_needSlot x1 x4).bind fun v15 =>
  (mX1_table x0 v15 h).bind fun v17 =>
  (mX10_holds v17 x2 h).bind fun v19 =>
  if v19 = 0 then
  (mX1_flawsAt_b54 x0 x1 x2 x4 x3 (2 : Int32) h)
  else (mX1_flawsAt_b54 x0 x1 x2 x4 x3 (0 : Int32) h))
  else (xt (mX1_flawsAt_l65 x0 x1 x2 x3 (0 : Int32) h))
noncomputable def mX1_flawsAt_l18 (x0 : Nat) (x1 : Int32) (x2 : Int32) (x3 : Int32) (x4 : Int32) (h : Hp) : Option Int32 :=
  lp (fun s : (Int32 × Int32) => mX1_flawsAt_l18f x0 x1 x2 h s.1 s.2) (x3, x4)
noncomputable def mX1_flawsAt (x0 : Nat) (x1 : Int32) (x2 : Int32) (h : Hp) : Option Int32 :=
  if (hpS h x0).1 = 2 then
  (gR 1 17 x0 h).bind fun v1 =>
  (mX10_holds v1 x2 h).bind fun v2 =>
  if v2 = 0 then
  (some (0 : Int32))
  else (mX1_flawsAt_l18 x0 x1 x2 (1 : Int32) (0 : Int32) h)
  else none

noncomputable def mX1_sound_b36 (x0 : Nat) (x1 : Int32) (x2 : Int32) (x4 : Int32) (t0 : Int32) (t1 : Int32) (h : Hp) : Option ((Int32 × Int32) ⊕ Int32) :=
  some (.inl ((t0 ||| t1), (x4 + (1 : Int32))))
noncomputable def mX1_sound_l5f (x0 : Nat) (x1 : Int32) (x2 : Int32) (h : Hp) (x3 : Int32) (x4 : Int32) : Option ((Int32 × Int32) ⊕ Int32) :=
  (gI 1 4 x0 h).bind fun v1 =>
  if x4 < v1 then
  ((gR 1 9 x0 h).bind fun v2 =>
  (mX11_at v2 x4 h).bind fun v3 =>
  if v3 = x1 then
  (mX1_sound_b36 x0 x1 x2 x4 x3 ((4 : Int32) <<< (x4 &&& 31)) h)
  else (mX1_sound_b36 x0 x1 x2 x4 x3 (0 : Int32) h))
  else (xt (if (x2 &&& (x3 ||| (2 : Int32))) = x3 then
  (some (1 : Int32))
  else (some (0 : Int32))))
noncomputable def mX1_sound_l5 (x0 : Nat) (x1 : Int32) (x2 : Int32) (x3 : Int32) (x4 : Int32) (h : Hp) : Option Int32 :=
  lp (fun s : (Int32 × Int32) => mX1_sound_l5f x0 x1 x2 h s.1 s.2) (x3, x4)
noncomputable def mX1_sound (x0 : Nat) (x1 : Int32) (x2 : Int32) (h : Hp) : Option Int32 :=
  if (hpS h x0).1 = 2 then
  mX1_sound_l5 x0 x1 x2 (1 : Int32) (0 : Int32) h
  else none

noncomputable def mX1_weigh_b35 (x0 : Nat) (x1 : Nat) (x2 : Int64) (x4 : Int32) (h : Hp) : Option ((Int64 × Int32) ⊕ Int64) :=
  some (.inl (x2, (x4 + (1 : Int32))))
noncomputable def mX1_weigh_l5f (x0 : Nat) (x1 : Nat) (h : Hp) (x2 : Int64) (x4 : Int32) : Option ((Int64 × Int32) ⊕ Int64) :=
  if x4 < (256 : Int32) then
  ((mX10_holds x1 x4 h).bind fun v1 =>
  if v1 = 0 then
  (mX1_weigh_b35 x0 x1 x2 x4 h)
  else ((gR 1 16 x0 h).bind fun v3 =>
  (mX11_at v3 x4 h).bind fun v4 =>
  mX1_weigh_b35 x0 x1 (x2 + v4.toInt64) x4 h))
  else (xt (some x2))
noncomputable def mX1_weigh_l5 (x0 : Nat) (x1 : Nat) (x2 : Int64) (x4 : Int32) (h : Hp) : Option Int64 :=
  lp (fun s : (Int64 × Int32) => mX1_weigh_l5f x0 x1 h s.1 s.2) (x2, x4)
noncomputable def mX1_weigh (x0 : Nat) (x1 : Nat) (h : Hp) : Option Int64 :=
  if (hpS h x0).1 = 2 then
  mX1_weigh_l5 x0 x1 (0 : Int64) (0 : Int32) h
  else none

noncomputable def mX2_init (x0 : Nat) (x1 : Nat) (x2 : Nat) (x3 : Nat) (x4 : Nat) (h : Hp) : Option Hp :=
  b2 (newO 10 1 h) fun v2 h1 =>
  (mX10_init v2 h1).bind fun h4 =>
  (sR 2 2 x0 v2 h4).bind fun h5 =>
  (sR 2 0 x0 x1 h5).bind fun h6 =>
  (sR 2 1 x0 x2 h6).bind fun h7 =>
  (sR 2 3 x0 x3 h7).bind fun h8 =>
  (sR 2 4 x0 x4 h8).bind fun h9 =>
  some h9

noncomputable def mX2_begin (x0 : Nat) (x1 : Nat) (h : Hp) : Option Hp :=
  if (hpS h x0).1 = 3 then
  (sR 2 3 x0 x1 h).bind fun h1 =>
  (sI 2 5 x0 (0 : Int32) h1).bind fun h2 =>
  (sI 2 7 x0 (0 : Int32) h2).bind fun h3 =>
  some h3
  else none

noncomputable def mX5_clear (x0 : Nat) (h : Hp) : Option Hp :=
  if (hpS h x0).1 = 6 then
  (sI 5 0 x0 (0 : Int32) h).bind fun h1 =>
  (sZ 5 1 x0 (0 : Int32) h1).bind fun h2 =>
  (sI 5 2 x0 (0 : Int32) h2).bind fun h3 =>
  (sI 5 3 x0 (0 : Int32) h3).bind fun h4 =>
  (sI 5 4 x0 (0 : Int32) h4).bind fun h5 =>
  (sI 5 5 x0 (0 : Int32) h5).bind fun h6 =>
  (sI 5 6 x0 (0 : Int32) h6).bind fun h7 =>
  (sI 5 7 x0 (0 : Int32) h7).bind fun h8 =>
  (sI 5 8 x0 (0 : Int32) h8).bind fun h9 =>
  some h9
  else none

noncomputable def mX2_nextKind (x0 : Nat) (h : Hp) : Option Int32 :=
  if (hpS h x0).1 = 3 then
  (gI 2 5 x0 h).bind fun v1 =>
  if v1 < 0 then
  (some (0 : Int32))
  else ((gI 2 5 x0 h).bind fun v2 =>
  (gR 2 0 x0 h).bind fun v3 =>
  (gR 8 0 v3 h).bind fun v4 =>
  (aLen v4 h).bind fun v5 =>
  if v2 < v5 then
  ((gR 2 0 x0 h).bind fun v6 =>
  (gR 8 0 v6 h).bind fun v7 =>
  (gI 2 5 x0 h).bind fun v8 =>
  (ldI v7 v8 h).bind fun v9 =>
  some v9)
  else (some (0 : Int32)))
  else none

noncomputable def mX2_fail (x0 : Nat) (x1 : Int32) (h : Hp) : Option (Int32 × Hp) :=
  if (hpS h x0).1 = 3 then
  (sI 2 7 x0 x1 h).bind fun h1 =>
  (gI 2 5 x0 h1).bind fun v2 =>
  if v2 < 0 then
  (some ((0 : Int32), h1))
  else ((gI 2 5 x0 h1).bind fun v3 =>
  (gR 2 0 x0 h1).bind fun v4 =>
  (gR 8 1 v4 h1).bind fun v5 =>
  (aLen v5 h1).bind fun v6 =>
  if v3 < v6 then
  ((gR 2 0 x0 h1).bind fun v7 =>
  (gR 8 1 v7 h1).bind fun v8 =>
  (gI 2 5 x0 h1).bind fun v9 =>
  (ldI v8 v9 h1).bind fun v10 =>
  (sI 2 8 x0 v10 h1).bind fun h11 =>
  some ((0 : Int32), h11))
  else (some ((0 : Int32), h1)))
  else none

noncomputable def mX2_nextValue (x0 : Nat) (h : Hp) : Option Int32 :=
  if (hpS h x0).1 = 3 then
  (gI 2 5 x0 h).bind fun v1 =>
  if v1 < 0 then
  (some (0 : Int32))
  else ((gI 2 5 x0 h).bind fun v2 =>
  (gR 2 0 x0 h).bind fun v3 =>
  (gR 8 2 v3 h).bind fun v4 =>
  (aLen v4 h).bind fun v5 =>
  if v2 < v5 then
  ((gR 2 0 x0 h).bind fun v6 =>
  (gR 8 2 v6 h).bind fun v7 =>
  (gI 2 5 x0 h).bind fun v8 =>
  (ldI v7 v8 h).bind fun v9 =>
  some v9)
  else (some (0 : Int32)))
  else none

noncomputable def mX2_newName_b50 (x0 : Nat) (h : Hp) : Option (Int32 × Hp) :=
  b2 (mX2_fail x0 (3 : Int32) h) fun v10 h11 =>
  (z01 v10).bind fun v => some (v, h11)
noncomputable def mX2_newName (x0 : Nat) (h : Hp) : Option (Int32 × Hp) :=
  if (hpS h x0).1 = 3 then
  (mX2_nextKind x0 h).bind fun v1 =>
  if v1 = (2 : Int32) then
  ((mX2_nextValue x0 h).bind fun v3 =>
  (sI 2 6 x0 v3 h).bind fun h5 =>
  (gR 2 3 x0 h5).bind fun v6 =>
  (gI 2 6 x0 h5).bind fun v7 =>
  (mX1_factNamed v6 v7 h5).bind fun v8 =>
  if v8 < 0 then
  ((gR 2 3 x0 h5).bind fun v12 =>
  (gI 2 6 x0 h5).bind fun v13 =>
  (mX1_countNamed v12 v13 h5).bind fun v14 =>
  if v14 < 0 then
  ((gI 2 5 x0 h5).bind fun v16 =>
  (sI 2 5 x0 (v16 + (1 : Int32)) h5).bind fun h17 =>
  some ((1 : Int32), h17))
  else (mX2_newName_b50 x0 h5))
  else (mX2_newName_b50 x0 h5))
  else (b2 (mX2_fail x0 (1 : Int32) h) fun v18 h19 =>
  (z01 v18).bind fun v => some (v, h19))
  else none

noncomputable def mX2_number_b38 (x0 : Nat) (h : Hp) : Option (Int32 × Hp) :=
  b2 (mX2_fail x0 (2 : Int32) h) fun v7 h8 =>
  (z01 v7).bind fun v => some (v, h8)
noncomputable def mX2_number (x0 : Nat) (x1 : Int32) (x2 : Int32) (h : Hp) : Option (Int32 × Hp) :=
  if (hpS h x0).1 = 3 then
  (mX2_nextKind x0 h).bind fun v1 =>
  if v1 = (3 : Int32) then
  ((mX2_nextValue x0 h).bind fun v3 =>
  (sI 2 6 x0 v3 h).bind fun h5 =>
  (gI 2 6 x0 h5).bind fun v6 =>
  if v6 < x1 then
  (mX2_number_b38 x0 h5)
  else ((gI 2 6 x0 h5).bind fun v9 =>
  if x2 < v9 then
  (mX2_number_b38 x0 h5)
  else ((gI 2 5 x0 h5).bind fun v10 =>
  (sI 2 5 x0 (v10 + (1 : Int32)) h5).bind fun h11 =>
  some ((1 : Int32), h11))))
  else (b2 (mX2_fail x0 (1 : Int32) h) fun v12 h13 =>
  (z01 v12).bind fun v => some (v, h13))
  else none

noncomputable def mX2_expect (x0 : Nat) (x1 : Int32) (h : Hp) : Option (Int32 × Hp) :=
  if (hpS h x0).1 = 3 then
  (mX2_nextKind x0 h).bind fun v1 =>
  if v1 = x1 then
  ((gI 2 5 x0 h).bind fun v3 =>
  (sI 2 5 x0 (v3 + (1 : Int32)) h).bind fun h4 =>
  some ((1 : Int32), h4))
  else (b2 (mX2_fail x0 (1 : Int32) h) fun v5 h6 =>
  (z01 v5).bind fun v => some (v, h6))
  else none

noncomputable def mX2_readFact_b69 (x0 : Nat) (x1 : Int32) (x2 : Int32) (h : Hp) : Option (Int32 × Hp) :=
  (gR 2 3 x0 h).bind fun v10 =>
  (gR 1 7 v10 h).bind fun v11 =>
  (gR 2 3 x0 h).bind fun v12 =>
  (gI 1 1 v12 h).bind fun v13 =>
  (mX11_put v11 v13 x1 h).bind fun h15 =>
  (gR 2 3 x0 h15).bind fun v16 =>
  (gR 1 6 v16 h15).bind fun v17 =>
  (gR 2 3 x0 h15).bind fun v18 =>
  (gI 1 1 v18 h15).bind fun v19 =>
  (mX11_put v17 v19 x2 h15).bind fun h21 =>
  (gR 2 3 x0 h21).bind fun v22 =>
  (gI 1 1 v22 h21).bind fun v23 =>
  (sI 1 1 v22 (v23 + (1 : Int32)) h21).bind fun h24 =>
  b2 (mX2_expect x0 (59 : Int32) h24) fun v25 h26 =>
  (z01 v25).bind fun v => some (v, h26)
noncomputable def mX2_readFact (x0 : Nat) (h : Hp) : Option (Int32 × Hp) :=
  if (hpS h x0).1 = 3 then
  (gR 2 3 x0 h).bind fun v1 =>
  (gI 1 1 v1 h).bind fun v2 =>
  if v2 < (8 : Int32) then
  ((gI 2 5 x0 h).bind fun v3 =>
  (sI 2 5 x0 (v3 + (1 : Int32)) h).bind fun h4 =>
  b2 (mX2_newName x0 h4) fun v5 h6 =>
  if v5 = 0 then
  (some ((0 : Int32), h6))
  else ((gI 2 6 x0 h6).bind fun v7 =>
  (mX2_nextKind x0 h6).bind fun v8 =>
  if v8 = (3 : Int32) then
  (b2 (mX2_number x0 (1 : Int32) (9 : Int32) h6) fun v27 h28 =>
  if v27 = 0 then
  (some ((0 : Int32), h28))
  else ((gI 2 6 x0 h28).bind fun v29 =>
  mX2_readFact_b69 x0 v7 v29 h28))
  else (mX2_readFact_b69 x0 v7 (5 : Int32) h6)))
  else (b2 (mX2_fail x0 (4 : Int32) h) fun v30 h31 =>
  (z01 v30).bind fun v => some (v, h31))
  else none

noncomputable def mX2_seventhFault (x0 : Nat) (h : Hp) : Option Int32 :=
  if (hpS h x0).1 = 3 then
  (mX2_nextKind x0 h).bind fun v1 =>
  lsw v1 [(2, (gR 2 3 x0 h).bind fun v3 =>
  (mX2_nextValue x0 h).bind fun v4 =>
  (mX1_factNamed v3 v4 h).bind fun v6 =>
  if v6 < 0 then
  (some (3 : Int32))
  else (some (4 : Int32))),
  (3, (mX2_nextValue x0 h).bind fun v8 =>
  if (6 : Int32) < v8 then
  (some (2 : Int32))
  else (some (4 : Int32))),
  (33, some (4 : Int32)),
  (40, some (4 : Int32))] (some (1 : Int32))
  else none

noncomputable def mX2_knownFact (x0 : Nat) (h : Hp) : Option (Int32 × Hp) :=
  if (hpS h x0).1 = 3 then
  (mX2_nextKind x0 h).bind fun v1 =>
  if v1 = (2 : Int32) then
  ((gR 2 3 x0 h).bind fun v3 =>
  (mX2_nextValue x0 h).bind fun v4 =>
  (mX1_factNamed v3 v4 h).bind fun v6 =>
  (sI 2 6 x0 v6 h).bind fun h8 =>
  (gI 2 6 x0 h8).bind fun v9 =>
  if v9 < 0 then
  (b2 (mX2_fail x0 (3 : Int32) h8) fun v12 h13 =>
  (z01 v12).bind fun v => some (v, h13))
  else ((gI 2 5 x0 h8).bind fun v10 =>
  (sI 2 5 x0 (v10 + (1 : Int32)) h8).bind fun h11 =>
  some ((1 : Int32), h11)))
  else (b2 (mX2_fail x0 (1 : Int32) h) fun v14 h15 =>
  (z01 v14).bind fun v => some (v, h15))
  else none

abbrev GTX2_readEither : Type := (Nat → Int32 → Hp → Option (Int32 × Hp)) × (Nat → Int32 → Hp → Option (Int32 × Hp)) × (Nat → Int32 → Hp → Option (Int32 × Hp)) × (Nat → Int32 → Hp → Option (Int32 × Hp))
noncomputable def mX2_readEither_l12f (g : GTX2_readEither) (x0 : Nat) (x1 : Int32) (x2 : Int32) (h : Hp) : Option ((Int32 × Hp) ⊕ (Int32 × Hp)) :=
  if x2 < (480 : Int32) then
  ((mX2_nextKind x0 h).bind fun v3 =>
  if v3 = (124 : Int32) then
  ((gI 2 5 x0 h).bind fun v5 =>
  (sI 2 5 x0 (v5 + (1 : Int32)) h).bind fun h6 =>
  b2 (g.2.1 x0 x1 h6) fun v7 h8 =>
  if v7 = 0 then
  (xt (some ((0 : Int32), h8)))
  else ((gR 2 3 x0 h8).bind fun v9 =>
  (mX1_emit v9 (10 : Int32) h8).bind fun h11 =>
  some (.inl ((x2 + (1 : Int32)), h11))))
  else (xt (some ((1 : Int32), h))))
  else (xt (some ((1 : Int32), h)))
noncomputable def mX2_readEither_l12 (g : GTX2_readEither) (x0 : Nat) (x1 : Int32) (x2 : Int32) (h : Hp) : Option (Int32 × Hp) :=
  lp (fun s : (Int32 × Hp) => mX2_readEither_l12f g x0 x1 s.1 s.2) (x2, h)
noncomputable def mX2_readEither_F (g : GTX2_readEither) (x0 : Nat) (x1 : Int32) (h : Hp) : Option (Int32 × Hp) :=
  if (hpS h x0).1 = 3 then
  b2 (g.2.1 x0 x1 h) fun v1 h2 =>
  if v1 = 0 then
  (some ((0 : Int32), h2))
  else (mX2_readEither_l12 g x0 x1 (0 : Int32) h2)
  else none
noncomputable def mX2_readEvery_l12f (g : GTX2_readEither) (x0 : Nat) (x1 : Int32) (x2 : Int32) (h : Hp) : Option ((Int32 × Hp) ⊕ (Int32 × Hp)) :=
  if x2 < (480 : Int32) then
  ((mX2_nextKind x0 h).bind fun v3 =>
  if v3 = (38 : Int32) then
  ((gI 2 5 x0 h).bind fun v5 =>
  (sI 2 5 x0 (v5 + (1 : Int32)) h).bind fun h6 =>
  b2 (g.2.2.1 x0 x1 h6) fun v7 h8 =>
  if v7 = 0 then
  (xt (some ((0 : Int32), h8)))
  else ((gR 2 3 x0 h8).bind fun v9 =>
  (mX1_emit v9 (9 : Int32) h8).bind fun h11 =>
  some (.inl ((x2 + (1 : Int32)), h11))))
  else (xt (some ((1 : Int32), h))))
  else (xt (some ((1 : Int32), h)))
noncomputable def mX2_readEvery_l12 (g : GTX2_readEither) (x0 : Nat) (x1 : Int32) (x2 : Int32) (h : Hp) : Option (Int32 × Hp) :=
  lp (fun s : (Int32 × Hp) => mX2_readEvery_l12f g x0 x1 s.1 s.2) (x2, h)
noncomputable def mX2_readEvery_F (g : GTX2_readEither) (x0 : Nat) (x1 : Int32) (h : Hp) : Option (Int32 × Hp) :=
  if (hpS h x0).1 = 3 then
  b2 (g.2.2.1 x0 x1 h) fun v1 h2 =>
  if v1 = 0 then
  (some ((0 : Int32), h2))
  else (mX2_readEvery_l12 g x0 x1 (0 : Int32) h2)
  else none
noncomputable def mX2_readOne_b50 (g : GTX2_readEither) (x0 : Nat) (x1 : Int32) (x2 : Int32) (h : Hp) : Option (Int32 × Hp) :=
  if x1 < (5 : Int32) then
  ((gI 2 5 x0 h).bind fun v3 =>
  (sI 2 5 x0 (v3 + (1 : Int32)) h).bind fun h4 =>
  if x2 = (40 : Int32) then
  (b2 (g.1 x0 (x1 + (1 : Int32)) h4) fun v10 h11 =>
  if v10 = 0 then
  (some ((0 : Int32), h11))
  else (b2 (mX2_expect x0 (41 : Int32) h11) fun v12 h13 =>
  if v12 = 0 then
  (some ((0 : Int32), h13))
  else (some ((1 : Int32), h13))))
  else (b2 (g.2.2.1 x0 (x1 + (1 : Int32)) h4) fun v5 h6 =>
  if v5 = 0 then
  (some ((0 : Int32), h6))
  else ((gR 2 3 x0 h6).bind fun v7 =>
  (mX1_emit v7 (8 : Int32) h6).bind fun h9 =>
  some ((1 : Int32), h9))))
  else (b2 (mX2_fail x0 (4 : Int32) h) fun v14 h15 =>
  (z01 v14).bind fun v => some (v, h15))
noncomputable def mX2_readOne_F (g : GTX2_readEither) (x0 : Nat) (x1 : Int32) (h : Hp) : Option (Int32 × Hp) :=
  if (hpS h x0).1 = 3 then
  (mX2_nextKind x0 h).bind fun v1 =>
  if v1 = (3 : Int32) then
  (b2 (g.2.2.2 x0 x1 h) fun v22 h23 =>
  (z01 v22).bind fun v => some (v, h23))
  else (if v1 = (33 : Int32) then
  (mX2_readOne_b50 g x0 x1 v1 h)
  else (if v1 = (40 : Int32) then
  (mX2_readOne_b50 g x0 x1 v1 h)
  else (b2 (mX2_knownFact x0 h) fun v16 h17 =>
  if v16 = 0 then
  (some ((0 : Int32), h17))
  else ((gR 2 3 x0 h17).bind fun v18 =>
  (gI 2 6 x0 h17).bind fun v19 =>
  (mX1_emit v18 v19 h17).bind fun h21 =>
  some ((1 : Int32), h21)))))
  else none
noncomputable def mX2_readSeveral_l62f (g : GTX2_readEither) (x0 : Nat) (x1 : Int32) (x2 : Int32) (x3 : Int32) (h : Hp) : Option ((Int32 × Hp) ⊕ (Int32 × Hp)) :=
  if (6 : Int32) < x3 then
  (xt ((mX2_seventhFault x0 h).bind fun v10 =>
  b2 (mX2_fail x0 v10 h) fun v12 h13 =>
  (z01 v12).bind fun v => some (v, h13)))
  else (b2 (g.1 x0 (x1 + (1 : Int32)) h) fun v14 h15 =>
  if v14 = 0 then
  (xt (some ((0 : Int32), h15)))
  else ((mX2_nextKind x0 h15).bind fun v16 =>
  if v16 = (41 : Int32) then
  (xt ((gI 2 5 x0 h15).bind fun v20 =>
  (sI 2 5 x0 (v20 + (1 : Int32)) h15).bind fun h21 =>
  (gR 2 3 x0 h21).bind fun v22 =>
  (mX1_emit v22 (((16 : Int32) + ((8 : Int32) * x2)) + x3) h21).bind fun h24 =>
  some ((1 : Int32), h24)))
  else (b2 (mX2_expect x0 (44 : Int32) h15) fun v18 h19 =>
  if v18 = 0 then
  (xt (some ((0 : Int32), h19)))
  else (some (.inl ((x3 + (1 : Int32)), h19))))))
noncomputable def mX2_readSeveral_l62 (g : GTX2_readEither) (x0 : Nat) (x1 : Int32) (x2 : Int32) (x3 : Int32) (h : Hp) : Option (Int32 × Hp) :=
  lp (fun s : (Int32 × Hp) => mX2_readSeveral_l62f g x0 x1 x2 s.1 s.2) (x3, h)
noncomputable def mX2_readSeveral_b49 (g : GTX2_readEither) (x0 : Nat) (x1 : Int32) (x2 : Int32) (h : Hp) : Option (Int32 × Hp) :=
  b2 (mX2_expect x0 (40 : Int32) h) fun v8 h9 =>
  if v8 = 0 then
  (some ((0 : Int32), h9))
  else (mX2_readSeveral_l62 g x0 x1 x2 (1 : Int32) h9)
noncomputable def mX2_readSeveral_F (g : GTX2_readEither) (x0 : Nat) (x1 : Int32) (h : Hp) : Option (Int32 × Hp) :=
  if (hpS h x0).1 = 3 then
  b2 (mX2_number x0 (0 : Int32) (6 : Int32) h) fun v1 h2 =>
  if v1 = 0 then
  (some ((0 : Int32), h2))
  else ((gI 2 6 x0 h2).bind fun v3 =>
  b2 (mX2_expect x0 (266 : Int32) h2) fun v4 h5 =>
  if v4 = 0 then
  (some ((0 : Int32), h5))
  else ((mX2_nextKind x0 h5).bind fun v6 =>
  if v6 = (40 : Int32) then
  (if x1 < (5 : Int32) then
  (mX2_readSeveral_b49 g x0 x1 v3 h5)
  else (b2 (mX2_fail x0 (4 : Int32) h5) fun v25 h26 =>
  (z01 v25).bind fun v => some (v, h26)))
  else (mX2_readSeveral_b49 g x0 x1 v3 h5)))
  else none
noncomputable def mg_X2_readEither : Nat → GTX2_readEither
  | 0 => (fun _ _ _ => none, fun _ _ _ => none, fun _ _ _ => none, fun _ _ _ => none)
  | n + 1 => (mX2_readEither_F (mg_X2_readEither n), mX2_readEvery_F (mg_X2_readEither n), mX2_readOne_F (mg_X2_readEither n), mX2_readSeveral_F (mg_X2_readEither n))
noncomputable def mX2_readEither (n : Nat) (x0 : Nat) (x1 : Int32) (h : Hp) : Option (Int32 × Hp) := (mg_X2_readEither n).1 x0 x1 h
noncomputable def mX2_readEvery (n : Nat) (x0 : Nat) (x1 : Int32) (h : Hp) : Option (Int32 × Hp) := (mg_X2_readEither n).2.1 x0 x1 h
noncomputable def mX2_readOne (n : Nat) (x0 : Nat) (x1 : Int32) (h : Hp) : Option (Int32 × Hp) := (mg_X2_readEither n).2.2.1 x0 x1 h
noncomputable def mX2_readSeveral (n : Nat) (x0 : Nat) (x1 : Int32) (h : Hp) : Option (Int32 × Hp) := (mg_X2_readEither n).2.2.2 x0 x1 h

noncomputable def mJ13_bitCount_95d88_b55 (x0 : Int64) : Option Int32 :=
  some (x0.toInt32 &&& (127 : Int32))
noncomputable def mJ13_bitCount_95d88_b41 (x0 : Int64) : Option Int32 :=
  mJ13_bitCount_95d88_b55 ((x0 + (ushrL x0 (16 : Int32))) + (ushrL (x0 + (ushrL x0 (16 : Int32))) (32 : Int32)))
noncomputable def mJ13_bitCount_95d88_b24 (x0 : Int64) : Option Int32 :=
  mJ13_bitCount_95d88_b41 (((x0 + (ushrL x0 (4 : Int32))) &&& (1085102592571150095 : Int64)) + (ushrL ((x0 + (ushrL x0 (4 : Int32))) &&& (1085102592571150095 : Int64)) (8 : Int32)))
noncomputable def mJ13_bitCount_95d88 (x0 : Int64) : Option Int32 :=
  mJ13_bitCount_95d88_b24 (((x0 - ((ushrL x0 (1 : Int32)) &&& (6148914691236517205 : Int64))) &&& (3689348814741910323 : Int64)) + ((ushrL (x0 - ((ushrL x0 (1 : Int32)) &&& (6148914691236517205 : Int64))) (2 : Int32)) &&& (3689348814741910323 : Int64)))

noncomputable def mX10_size_l4f (x0 : Nat) (h : Hp) (x1 : Int32) (x2 : Int32) : Option ((Int32 × Int32) ⊕ Int32) :=
  (gR 10 0 x0 h).bind fun v1 =>
  (aLen v1 h).bind fun v2 =>
  if x2 < v2 then
  ((gR 10 0 x0 h).bind fun v3 =>
  (ldL v3 x2 h).bind fun v4 =>
  (mJ13_bitCount_95d88 v4).bind fun v5 =>
  some (.inl ((x1 + v5), (x2 + (1 : Int32)))))
  else (xt (some x1))
noncomputable def mX10_size_l4 (x0 : Nat) (x1 : Int32) (x2 : Int32) (h : Hp) : Option Int32 :=
  lp (fun s : (Int32 × Int32) => mX10_size_l4f x0 h s.1 s.2) (x1, x2)
noncomputable def mX10_size (x0 : Nat) (h : Hp) : Option Int32 :=
  if (hpS h x0).1 = 11 then
  mX10_size_l4 x0 (0 : Int32) (0 : Int32) h
  else none

noncomputable def mX10_isEmpty (x0 : Nat) (h : Hp) : Option Int32 :=
  if (hpS h x0).1 = 11 then
  (mX10_size x0 h).bind fun v1 =>
  if v1 = 0 then
  (some (1 : Int32))
  else (some (0 : Int32))
  else none

noncomputable def mX2_readNever (x0 : Nat) (h : Hp) : Option (Int32 × Hp) :=
  if (hpS h x0).1 = 3 then
  (gR 2 3 x0 h).bind fun v1 =>
  (gI 1 3 v1 h).bind fun v2 =>
  if v2 < (6 : Int32) then
  ((gI 2 5 x0 h).bind fun v3 =>
  (gR 2 3 x0 h).bind fun v4 =>
  (gI 1 13 v4 h).bind fun v5 =>
  (gI 2 5 x0 h).bind fun v6 =>
  (sI 2 5 x0 (v6 + (1 : Int32)) h).bind fun h7 =>
  b2 (mX2_readEither 40 x0 (0 : Int32) h7) fun v8 h9 =>
  if v8 = 0 then
  (some ((0 : Int32), h9))
  else (b2 (mX2_expect x0 (59 : Int32) h9) fun v10 h11 =>
  if v10 = 0 then
  (some ((0 : Int32), h11))
  else ((gR 2 1 x0 h11).bind fun v12 =>
  (gR 2 3 x0 h11).bind fun v13 =>
  (gR 1 12 v13 h11).bind fun v14 =>
  (gR 2 3 x0 h11).bind fun v15 =>
  (gI 1 13 v15 h11).bind fun v16 =>
  (gR 2 2 x0 h11).bind fun v17 =>
  (mX4_tabulate v12 v14 v5 v16 v17 h11).bind fun h19 =>
  (gR 2 3 x0 h19).bind fun v20 =>
  (gR 1 17 v20 h19).bind fun v21 =>
  (gR 2 2 x0 h19).bind fun v22 =>
  (mX10_minus v21 v22 h19).bind fun h24 =>
  (gR 2 3 x0 h24).bind fun v25 =>
  (gI 1 3 v25 h24).bind fun v26 =>
  (sI 1 3 v25 (v26 + (1 : Int32)) h24).bind fun h27 =>
  (gR 2 3 x0 h27).bind fun v28 =>
  (gR 1 17 v28 h27).bind fun v29 =>
  (mX10_isEmpty v29 h27).bind fun v30 =>
  if v30 = 0 then
  (some ((1 : Int32), h27))
  else ((sI 2 5 x0 v3 h27).bind fun h32 =>
  b2 (mX2_fail x0 (5 : Int32) h32) fun v33 h34 =>
  (z01 v33).bind fun v => some (v, h34)))))
  else (b2 (mX2_fail x0 (4 : Int32) h) fun v35 h36 =>
  (z01 v35).bind fun v => some (v, h36))
  else none

noncomputable def mX2_readInto (x0 : Nat) (x1 : Int32) (h : Hp) : Option (Int32 × Hp) :=
  if (hpS h x0).1 = 3 then
  (gR 2 3 x0 h).bind fun v1 =>
  (gR 1 14 v1 h).bind fun v2 =>
  (gR 2 3 x0 h).bind fun v3 =>
  (gI 1 13 v3 h).bind fun v4 =>
  (mX11_put v2 x1 v4 h).bind fun h6 =>
  b2 (mX2_readEither 40 x0 (0 : Int32) h6) fun v7 h8 =>
  (gR 2 3 x0 h8).bind fun v9 =>
  (gR 1 15 v9 h8).bind fun v10 =>
  (gR 2 3 x0 h8).bind fun v11 =>
  (gI 1 13 v11 h8).bind fun v12 =>
  (mX11_put v10 x1 v12 h8).bind fun h14 =>
  (z01 v7).bind fun v => some (v, h14)
  else none

noncomputable def mX5_file (x0 : Nat) (x1 : Int32) (x2 : Int32) (x3 : Int32) (h : Hp) : Option (Int32 × Hp) :=
  if (hpS h x0).1 = 6 then
  (gI 5 2 x0 h).bind fun v1 =>
  (gR 5 9 x0 h).bind fun v2 =>
  (mX11_put v2 v1 x1 h).bind fun h4 =>
  (gR 5 10 x0 h4).bind fun v5 =>
  (mX11_put v5 v1 x2 h4).bind fun h7 =>
  (gR 5 11 x0 h7).bind fun v8 =>
  (mX11_put v8 v1 x3 h7).bind fun h10 =>
  (gR 5 12 x0 h10).bind fun v11 =>
  (gI 5 0 x0 h10).bind fun v12 =>
  (mX11_put v11 v1 v12 h10).bind fun h14 =>
  (gR 5 13 x0 h14).bind fun v15 =>
  (mX11_put v15 v1 (0 : Int32) h14).bind fun h17 =>
  (gR 5 14 x0 h17).bind fun v18 =>
  (mX11_put v18 v1 (0 : Int32) h17).bind fun h20 =>
  (gI 5 2 x0 h20).bind fun v21 =>
  (sI 5 2 x0 (v21 + (1 : Int32)) h20).bind fun h22 =>
  some (v1, h22)
  else none

noncomputable def mX2_readCount_b164 (x0 : Nat) (x1 : Int32) (x2 : Int32) (x3 : Int32) (x4 : Int32) (h : Hp) : Option (Int32 × Hp) :=
  (mX2_nextKind x0 h).bind fun v18 =>
  if v18 = (261 : Int32) then
  (b2 (mX2_fail x0 (4 : Int32) h) fun v50 h51 =>
  (z01 v50).bind fun v => some (v, h51))
  else ((gR 2 3 x0 h).bind fun v20 =>
  (gR 1 7 v20 h).bind fun v21 =>
  (gR 2 3 x0 h).bind fun v22 =>
  (gI 1 2 v22 h).bind fun v23 =>
  (mX11_put v21 ((8 : Int32) + v23) x1 h).bind fun h25 =>
  (gR 2 3 x0 h25).bind fun v26 =>
  (gR 1 8 v26 h25).bind fun v27 =>
  (gR 2 3 x0 h25).bind fun v28 =>
  (gI 1 2 v28 h25).bind fun v29 =>
  (mX11_put v27 v29 x4 h25).bind fun h31 =>
  (gR 2 3 x0 h31).bind fun v32 =>
  (gR 1 11 v32 h31).bind fun v33 =>
  (gR 2 3 x0 h31).bind fun v34 =>
  (gI 1 2 v34 h31).bind fun v35 =>
  (gR 2 3 x0 h31).bind fun v36 =>
  (gI 1 2 v36 h31).bind fun v37 =>
  (mX11_put v33 v35 v37 h31).bind fun h39 =>
  (gR 2 4 x0 h39).bind fun v40 =>
  (gR 2 3 x0 h39).bind fun v41 =>
  (gI 1 2 v41 h39).bind fun v42 =>
  b2 (mX5_file v40 v42 x2 x3 h39) fun v43 h44 =>
  (gR 2 3 x0 h44).bind fun v45 =>
  (gI 1 2 v45 h44).bind fun v46 =>
  (sI 1 2 v45 (v46 + (1 : Int32)) h44).bind fun h47 =>
  b2 (mX2_expect x0 (59 : Int32) h47) fun v48 h49 =>
  (z01 v48).bind fun v => some (v, h49))
noncomputable def mX2_readCount_b124 (x0 : Nat) (x1 : Int32) (x2 : Int32) (x3 : Int32) (x4 : Int32) (x5 : Int32) (h : Hp) : Option ((Int32 × Int32 × Hp) ⊕ (Int32 × Hp)) :=
  b2 (mX2_expect x0 (261 : Int32) h) fun v52 h53 =>
  if v52 = 0 then
  (xt (some ((0 : Int32), h53)))
  else ((gR 2 3 x0 h53).bind fun v54 =>
  (gI 1 2 v54 h53).bind fun v55 =>
  (mX11_needSlot v55 x5).bind fun v56 =>
  b2 (mX2_readInto x0 v56 h53) fun v58 h59 =>
  if v58 = 0 then
  (xt (some ((0 : Int32), h59)))
  else (some (.inl ((x4 + (1 : Int32)), (x5 + (1 : Int32)), h59))))
noncomputable def mX2_readCount_l103f (x0 : Nat) (x1 : Int32) (x2 : Int32) (x3 : Int32) (x4 : Int32) (x5 : Int32) (h : Hp) : Option ((Int32 × Int32 × Hp) ⊕ (Int32 × Hp)) :=
  if x5 < (4 : Int32) then
  (if x5 = 0 then
  (mX2_readCount_b124 x0 x1 x2 x3 x4 x5 h)
  else ((mX2_nextKind x0 h).bind fun v60 =>
  if v60 = (261 : Int32) then
  (mX2_readCount_b124 x0 x1 x2 x3 x4 x5 h)
  else (xt (mX2_readCount_b164 x0 x1 x2 x3 x4 h))))
  else (xt (mX2_readCount_b164 x0 x1 x2 x3 x4 h))
noncomputable def mX2_readCount_l103 (x0 : Nat) (x1 : Int32) (x2 : Int32) (x3 : Int32) (x4 : Int32) (x5 : Int32) (h : Hp) : Option (Int32 × Hp) :=
  lp (fun s : (Int32 × Int32 × Hp) => mX2_readCount_l103f x0 x1 x2 x3 s.1 s.2.1 s.2.2) (x4, x5, h)
noncomputable def mX2_readCount (x0 : Nat) (h : Hp) : Option (Int32 × Hp) :=
  if (hpS h x0).1 = 3 then
  (gR 2 3 x0 h).bind fun v1 =>
  (gI 1 2 v1 h).bind fun v2 =>
  if v2 < (5 : Int32) then
  ((gI 2 5 x0 h).bind fun v3 =>
  (sI 2 5 x0 (v3 + (1 : Int32)) h).bind fun h4 =>
  b2 (mX2_newName x0 h4) fun v5 h6 =>
  if v5 = 0 then
  (some ((0 : Int32), h6))
  else ((gI 2 6 x0 h6).bind fun v7 =>
  b2 (mX2_expect x0 (259 : Int32) h6) fun v8 h9 =>
  if v8 = 0 then
  (some ((0 : Int32), h9))
  else (b2 (mX2_number x0 (0 : Int32) (999 : Int32) h9) fun v10 h11 =>
  if v10 = 0 then
  (some ((0 : Int32), h11))
  else ((gI 2 6 x0 h11).bind fun v12 =>
  b2 (mX2_expect x0 (260 : Int32) h11) fun v13 h14 =>
  if v13 = 0 then
  (some ((0 : Int32), h14))
  else (b2 (mX2_number x0 (0 : Int32) (999 : Int32) h14) fun v15 h16 =>
  if v15 = 0 then
  (some ((0 : Int32), h16))
  else ((gI 2 6 x0 h16).bind fun v17 =>
  mX2_readCount_l103 x0 v7 v12 v17 (0 : Int32) (0 : Int32) h16))))))
  else (b2 (mX2_fail x0 (4 : Int32) h) fun v62 h63 =>
  (z01 v62).bind fun v => some (v, h63))
  else none

noncomputable def mX2_knownCount (x0 : Nat) (h : Hp) : Option (Int32 × Hp) :=
  if (hpS h x0).1 = 3 then
  (mX2_nextKind x0 h).bind fun v1 =>
  if v1 = (2 : Int32) then
  ((gR 2 3 x0 h).bind fun v3 =>
  (mX2_nextValue x0 h).bind fun v4 =>
  (mX1_countNamed v3 v4 h).bind fun v6 =>
  (sI 2 6 x0 v6 h).bind fun h8 =>
  (gI 2 6 x0 h8).bind fun v9 =>
  if v9 < 0 then
  (b2 (mX2_fail x0 (3 : Int32) h8) fun v12 h13 =>
  (z01 v12).bind fun v => some (v, h13))
  else ((gI 2 5 x0 h8).bind fun v10 =>
  (sI 2 5 x0 (v10 + (1 : Int32)) h8).bind fun h11 =>
  some ((1 : Int32), h11)))
  else (b2 (mX2_fail x0 (1 : Int32) h) fun v14 h15 =>
  (z01 v14).bind fun v => some (v, h15))
  else none

noncomputable def mX2_readPlea (x0 : Nat) (h : Hp) : Option (Int32 × Hp) :=
  if (hpS h x0).1 = 3 then
  (gR 2 3 x0 h).bind fun v1 =>
  (gI 1 4 v1 h).bind fun v2 =>
  if v2 < (6 : Int32) then
  ((gI 2 5 x0 h).bind fun v3 =>
  (sI 2 5 x0 (v3 + (1 : Int32)) h).bind fun h4 =>
  b2 (mX2_knownCount x0 h4) fun v5 h6 =>
  if v5 = 0 then
  (some ((0 : Int32), h6))
  else ((gR 2 3 x0 h6).bind fun v7 =>
  (gR 1 9 v7 h6).bind fun v8 =>
  (gR 2 3 x0 h6).bind fun v9 =>
  (gI 1 4 v9 h6).bind fun v10 =>
  (gI 2 6 x0 h6).bind fun v11 =>
  (mX11_put v8 v10 v11 h6).bind fun h13 =>
  (gR 2 3 x0 h13).bind fun v14 =>
  (gI 1 4 v14 h13).bind fun v15 =>
  b2 (mX2_readInto x0 ((20 : Int32) + v15) h13) fun v16 h17 =>
  if v16 = 0 then
  (some ((0 : Int32), h17))
  else ((gR 2 3 x0 h17).bind fun v18 =>
  (gI 1 4 v18 h17).bind fun v19 =>
  (sI 1 4 v18 (v19 + (1 : Int32)) h17).bind fun h20 =>
  b2 (mX2_expect x0 (59 : Int32) h20) fun v21 h22 =>
  (z01 v21).bind fun v => some (v, h22))))
  else (b2 (mX2_fail x0 (4 : Int32) h) fun v23 h24 =>
  (z01 v23).bind fun v => some (v, h24))
  else none

noncomputable def mX5_tell_b82 (t0 : Nat) (t1 : Int32) (t2 : Int32) (h : Hp) : Option Hp :=
  (mX11_put t0 t1 t2 h).bind fun h12 =>
  some h12
noncomputable def mX5_tell_b42 (x0 : Nat) (x1 : Int32) (x3 : Int32) (x4 : Int32) (t0 : Nat) (t1 : Int32) (t2 : Int32) (h : Hp) : Option Hp :=
  (mX11_put t0 t1 t2 h).bind fun h6 =>
  (gR 5 14 x0 h6).bind fun v7 =>
  if x3 = (1 : Int32) then
  ((gR 5 14 x0 h6).bind fun v13 =>
  (mX11_at v13 x1 h6).bind fun v14 =>
  mX5_tell_b82 v7 x1 (v14 ||| x4) h6)
  else ((gR 5 14 x0 h6).bind fun v8 =>
  (mX11_at v8 x1 h6).bind fun v9 =>
  mX5_tell_b82 v7 x1 (v9 &&& (x4 ^^^ (-1 : Int32))) h6)
noncomputable def mX5_tell (x0 : Nat) (x1 : Int32) (x2 : Int32) (x3 : Int32) (h : Hp) : Option Hp :=
  if (hpS h x0).1 = 6 then
  (gR 5 13 x0 h).bind fun v1 =>
  if x3 < (2 : Int32) then
  ((gR 5 13 x0 h).bind fun v16 =>
  (mX11_at v16 x1 h).bind fun v17 =>
  mX5_tell_b42 x0 x1 x3 ((1 : Int32) <<< (x2 &&& 31)) v1 x1 (v17 ||| ((1 : Int32) <<< (x2 &&& 31))) h)
  else ((gR 5 13 x0 h).bind fun v2 =>
  (mX11_at v2 x1 h).bind fun v3 =>
  mX5_tell_b42 x0 x1 x3 ((1 : Int32) <<< (x2 &&& 31)) v1 x1 (v3 &&& (((1 : Int32) <<< (x2 &&& 31)) ^^^ (-1 : Int32))) h)
  else none

noncomputable def mX2_readSays_b117 (x0 : Nat) (t0 : Nat) (t1 : Int32) (t2 : Int32) (t3 : Int32) (h : Hp) : Option (Int32 × Hp) :=
  (mX5_tell t0 t1 t2 t3 h).bind fun h20 =>
  b2 (mX2_expect x0 (59 : Int32) h20) fun v21 h22 =>
  (z01 v21).bind fun v => some (v, h22)
noncomputable def mX2_readSays_b53 (x0 : Nat) (x1 : Int32) (x2 : Int32) (h : Hp) : Option (Int32 × Hp) :=
  b2 (mX2_knownFact x0 h) fun v8 h9 =>
  if v8 = 0 then
  (some ((0 : Int32), h9))
  else ((gR 2 4 x0 h9).bind fun v10 =>
  (gR 5 13 v10 h9).bind fun v11 =>
  (mX11_at v11 x1 h9).bind fun v12 =>
  (gI 2 6 x0 h9).bind fun v14 =>
  (mX11_has v12 v14).bind fun v15 =>
  if v15 = 0 then
  ((gR 2 4 x0 h9).bind fun v17 =>
  (gI 2 6 x0 h9).bind fun v18 =>
  if x2 = 0 then
  (mX2_readSays_b117 x0 v17 x1 v18 (0 : Int32) h9)
  else (mX2_readSays_b117 x0 v17 x1 v18 (1 : Int32) h9))
  else ((gI 2 5 x0 h9).bind fun v23 =>
  (sI 2 5 x0 (v23 - (1 : Int32)) h9).bind fun h24 =>
  b2 (mX2_fail x0 (3 : Int32) h24) fun v25 h26 =>
  (z01 v25).bind fun v => some (v, h26)))
noncomputable def mX2_readSays_b38 (x0 : Nat) (x1 : Int32) (t0 : Int32) (h : Hp) : Option (Int32 × Hp) :=
  if t0 = 0 then
  ((gI 2 5 x0 h).bind fun v27 =>
  (sI 2 5 x0 (v27 + (1 : Int32)) h).bind fun h28 =>
  mX2_readSays_b53 x0 x1 t0 h28)
  else (mX2_readSays_b53 x0 x1 t0 h)
noncomputable def mX2_readSays (x0 : Nat) (h : Hp) : Option (Int32 × Hp) :=
  if (hpS h x0).1 = 3 then
  (gI 2 5 x0 h).bind fun v1 =>
  (sI 2 5 x0 (v1 + (1 : Int32)) h).bind fun h2 =>
  b2 (mX2_knownCount x0 h2) fun v3 h4 =>
  if v3 = 0 then
  (some ((0 : Int32), h4))
  else ((gI 2 6 x0 h4).bind fun v5 =>
  (mX2_nextKind x0 h4).bind fun v6 =>
  if v6 = (33 : Int32) then
  (mX2_readSays_b38 x0 v5 (0 : Int32) h4)
  else (mX2_readSays_b38 x0 v5 (1 : Int32) h4))
  else none

noncomputable def mX2_readSame_b61 (x0 : Nat) (h : Hp) : Option (Int32 × Hp) :=
  (gI 2 5 x0 h).bind fun v9 =>
  (sI 2 5 x0 (v9 - (1 : Int32)) h).bind fun h10 =>
  b2 (mX2_fail x0 (3 : Int32) h10) fun v11 h12 =>
  (z01 v11).bind fun v => some (v, h12)
noncomputable def mX2_readSame (x0 : Nat) (h : Hp) : Option (Int32 × Hp) :=
  if (hpS h x0).1 = 3 then
  (gI 2 5 x0 h).bind fun v1 =>
  (sI 2 5 x0 (v1 + (1 : Int32)) h).bind fun h2 =>
  b2 (mX2_knownCount x0 h2) fun v3 h4 =>
  if v3 = 0 then
  (some ((0 : Int32), h4))
  else ((gI 2 6 x0 h4).bind fun v5 =>
  b2 (mX2_knownCount x0 h4) fun v6 h7 =>
  if v6 = 0 then
  (some ((0 : Int32), h7))
  else ((gI 2 6 x0 h7).bind fun v8 =>
  if v5 = v8 then
  (mX2_readSame_b61 x0 h7)
  else ((gR 2 3 x0 h7).bind fun v13 =>
  (gR 1 10 v13 h7).bind fun v14 =>
  (mX11_at v14 v5 h7).bind fun v15 =>
  (mX11_has v15 v8).bind fun v17 =>
  if v17 = 0 then
  ((gR 2 3 x0 h7).bind fun v19 =>
  (gR 1 10 v19 h7).bind fun v20 =>
  (gR 2 3 x0 h7).bind fun v21 =>
  (gR 1 10 v21 h7).bind fun v22 =>
  (mX11_at v22 v5 h7).bind fun v23 =>
  (mX11_put v20 v5 (v23 ||| ((1 : Int32) <<< (v8 &&& 31))) h7).bind fun h26 =>
  (gR 2 3 x0 h26).bind fun v27 =>
  (gR 1 10 v27 h26).bind fun v28 =>
  (gR 2 3 x0 h26).bind fun v29 =>
  (gR 1 10 v29 h26).bind fun v30 =>
  (mX11_at v30 v8 h26).bind fun v31 =>
  (mX11_put v28 v8 (v31 ||| ((1 : Int32) <<< (v5 &&& 31))) h26).bind fun h34 =>
  (gR 2 3 x0 h34).bind fun v35 =>
  (gR 2 3 x0 h34).bind fun v36 =>
  (gR 1 11 v36 h34).bind fun v37 =>
  (mX11_at v37 v5 h34).bind fun v38 =>
  (gR 2 3 x0 h34).bind fun v40 =>
  (gR 1 11 v40 h34).bind fun v41 =>
  (mX11_at v41 v8 h34).bind fun v42 =>
  (mX1_unite v35 v38 v42 h34).bind fun h45 =>
  b2 (mX2_expect x0 (59 : Int32) h45) fun v46 h47 =>
  (z01 v46).bind fun v => some (v, h47))
  else (mX2_readSame_b61 x0 h7))))
  else none

noncomputable def mX2_readLimit (x0 : Nat) (h : Hp) : Option (Int32 × Hp) :=
  if (hpS h x0).1 = 3 then
  (gR 2 3 x0 h).bind fun v1 =>
  (gI 1 5 v1 h).bind fun v2 =>
  if v2 = 0 then
  ((gI 2 5 x0 h).bind fun v3 =>
  (sI 2 5 x0 (v3 + (1 : Int32)) h).bind fun h4 =>
  b2 (mX2_number x0 (1 : Int32) (999 : Int32) h4) fun v5 h6 =>
  if v5 = 0 then
  (some ((0 : Int32), h6))
  else ((gR 2 3 x0 h6).bind fun v7 =>
  (gI 2 6 x0 h6).bind fun v8 =>
  (sI 1 5 v7 v8 h6).bind fun h9 =>
  b2 (mX2_expect x0 (59 : Int32) h9) fun v10 h11 =>
  (z01 v10).bind fun v => some (v, h11)))
  else (b2 (mX2_fail x0 (3 : Int32) h) fun v12 h13 =>
  (z01 v12).bind fun v => some (v, h13))
  else none

noncomputable def mX2_readLine (x0 : Nat) (h : Hp) : Option (Int32 × Hp) :=
  if (hpS h x0).1 = 3 then
  (mX2_nextKind x0 h).bind fun v1 =>
  tsw v1 (256) [b2 (mX2_readFact x0 h) fun v5 h6 =>
  (z01 v5).bind fun v => some (v, h6),
  b2 (mX2_readNever x0 h) fun v7 h8 =>
  (z01 v7).bind fun v => some (v, h8),
  b2 (mX2_readCount x0 h) fun v9 h10 =>
  (z01 v9).bind fun v => some (v, h10),
  b2 (mX2_fail x0 (1 : Int32) h) fun v11 h12 =>
  (z01 v11).bind fun v => some (v, h12),
  b2 (mX2_fail x0 (1 : Int32) h) fun v13 h14 =>
  (z01 v13).bind fun v => some (v, h14),
  b2 (mX2_fail x0 (1 : Int32) h) fun v15 h16 =>
  (z01 v15).bind fun v => some (v, h16),
  b2 (mX2_readPlea x0 h) fun v17 h18 =>
  (z01 v17).bind fun v => some (v, h18),
  b2 (mX2_readSays x0 h) fun v19 h20 =>
  (z01 v19).bind fun v => some (v, h20),
  b2 (mX2_readSame x0 h) fun v21 h22 =>
  (z01 v21).bind fun v => some (v, h22),
  b2 (mX2_readLimit x0 h) fun v23 h24 =>
  (z01 v23).bind fun v => some (v, h24)] (b2 (mX2_fail x0 (1 : Int32) h) fun v3 h4 =>
  (z01 v3).bind fun v => some (v, h4))
  else none

noncomputable def mX2_readSuit_l26f (x0 : Nat) (x3 : Int32) (h : Hp) : Option ((Int32 × Hp) ⊕ (Int32 × Hp)) :=
  if x3 < (480 : Int32) then
  ((mX2_nextKind x0 h).bind fun v10 =>
  if v10 = 0 then
  (xt (some ((1 : Int32), h)))
  else (b2 (mX2_readLine x0 h) fun v12 h13 =>
  if v12 = 0 then
  (xt (some ((0 : Int32), h13)))
  else ((gR 2 3 x0 h13).bind fun v14 =>
  (gI 1 0 v14 h13).bind fun v15 =>
  (sI 1 0 v14 (v15 + (1 : Int32)) h13).bind fun h16 =>
  some (.inl ((x3 + (1 : Int32)), h16)))))
  else (xt (some ((1 : Int32), h)))
noncomputable def mX2_readSuit_l26 (x0 : Nat) (x3 : Int32) (h : Hp) : Option (Int32 × Hp) :=
  lp (fun s : (Int32 × Hp) => mX2_readSuit_l26f x0 s.1 s.2) (x3, h)
noncomputable def mX2_readSuit (x0 : Nat) (x1 : Nat) (x2 : Nat) (h : Hp) : Option (Int32 × Hp) :=
  if (hpS h x0).1 = 3 then
  (mX2_begin x0 x1 h).bind fun h2 =>
  (sR 2 4 x0 x2 h2).bind fun h3 =>
  (gR 2 3 x0 h3).bind fun v4 =>
  (mX1_clear v4 h3).bind fun h6 =>
  (gR 2 4 x0 h6).bind fun v7 =>
  (mX5_clear v7 h6).bind fun h9 =>
  mX2_readSuit_l26 x0 (0 : Int32) h9
  else none

noncomputable def mX2_readQuestion (x0 : Nat) (x1 : Nat) (h : Hp) : Option (Int32 × Hp) :=
  if (hpS h x0).1 = 3 then
  (mX2_begin x0 x1 h).bind fun h2 =>
  b2 (mX2_readEither 40 x0 (0 : Int32) h2) fun v3 h4 =>
  if v3 = 0 then
  (some ((0 : Int32), h4))
  else (b2 (mX2_expect x0 (0 : Int32) h4) fun v5 h6 =>
  if v5 = 0 then
  (some ((0 : Int32), h6))
  else (some ((1 : Int32), h6)))
  else none

noncomputable def mX3_init (x0 : Nat) (h : Hp) : Option Unit :=
  some ()

noncomputable def mX3_start (x0 : Nat) (x1 : Int32) (h : Hp) : Option Hp :=
  if (hpS h x0).1 = 4 then
  (sI 3 0 x0 x1 h).bind fun h1 =>
  (sI 3 1 x0 (0 : Int32) h1).bind fun h2 =>
  (sI 3 2 x0 (0 : Int32) h2).bind fun h3 =>
  (sI 3 3 x0 (0 : Int32) h3).bind fun h4 =>
  (sZ 3 4 x0 (0 : Int32) h4).bind fun h5 =>
  some h5
  else none

noncomputable def mJ6_bitCount_0f7a4_b41 (x0 : Int32) : Option Int32 :=
  some ((x0 + (ushrI x0 (16 : Int32))) &&& (63 : Int32))
noncomputable def mJ6_bitCount_0f7a4_b24 (x0 : Int32) : Option Int32 :=
  mJ6_bitCount_0f7a4_b41 (((x0 + (ushrI x0 (4 : Int32))) &&& (252645135 : Int32)) + (ushrI ((x0 + (ushrI x0 (4 : Int32))) &&& (252645135 : Int32)) (8 : Int32)))
noncomputable def mJ6_bitCount_0f7a4 (x0 : Int32) : Option Int32 :=
  mJ6_bitCount_0f7a4_b24 (((x0 - ((ushrI x0 (1 : Int32)) &&& (1431655765 : Int32))) &&& (858993459 : Int32)) + ((ushrI (x0 - ((ushrI x0 (1 : Int32)) &&& (1431655765 : Int32))) (2 : Int32)) &&& (858993459 : Int32)))

noncomputable def mX3_nextFacts_b44 (x0 : Nat) (x1 : Int32) (h : Hp) : Option ((Int32 × Hp) ⊕ (Int32 × Hp)) :=
  (gI 3 1 x0 h).bind fun v6 =>
  (gI 3 0 x0 h).bind fun v7 =>
  (mJ6_bitCount_0f7a4 v7).bind fun v8 =>
  if v8 < v6 then
  (xt (some ((0 : Int32), h)))
  else ((gI 3 2 x0 h).bind fun v10 =>
  (mJ6_bitCount_0f7a4 v10).bind fun v11 =>
  (gI 3 1 x0 h).bind fun v13 =>
  if v11 = v13 then
  (xt (some ((1 : Int32), h)))
  else (some (.inl ((x1 + (1 : Int32)), h))))
noncomputable def mX3_nextFacts_l2f (x0 : Nat) (x1 : Int32) (h : Hp) : Option ((Int32 × Hp) ⊕ (Int32 × Hp)) :=
  if x1 < (2304 : Int32) then
  ((gI 3 2 x0 h).bind fun v1 =>
  (gI 3 0 x0 h).bind fun v2 =>
  (gI 3 0 x0 h).bind fun v3 =>
  (sI 3 2 x0 ((v1 - v2) &&& v3) h).bind fun h4 =>
  (gI 3 2 x0 h4).bind fun v5 =>
  if v5 = 0 then
  ((gI 3 1 x0 h4).bind fun v14 =>
  (sI 3 1 x0 (v14 + (1 : Int32)) h4).bind fun h15 =>
  mX3_nextFacts_b44 x0 x1 h15)
  else (mX3_nextFacts_b44 x0 x1 h4))
  else (xt (some ((0 : Int32), h)))
noncomputable def mX3_nextFacts_l2 (x0 : Nat) (x1 : Int32) (h : Hp) : Option (Int32 × Hp) :=
  lp (fun s : (Int32 × Hp) => mX3_nextFacts_l2f x0 s.1 s.2) (x1, h)
noncomputable def mX3_nextFacts (x0 : Nat) (h : Hp) : Option (Int32 × Hp) :=
  if (hpS h x0).1 = 4 then
  mX3_nextFacts_l2 x0 (0 : Int32) h
  else none

noncomputable def mX3_more (x0 : Nat) (h : Hp) : Option (Int32 × Hp) :=
  if (hpS h x0).1 = 4 then
  (gI 3 4 x0 h).bind fun v1 =>
  if v1 = 0 then
  ((sZ 3 4 x0 (1 : Int32) h).bind fun h11 =>
  some ((1 : Int32), h11))
  else ((gI 3 3 x0 h).bind fun v2 =>
  (gI 3 2 x0 h).bind fun v3 =>
  if v2 = v3 then
  ((sI 3 3 x0 (0 : Int32) h).bind fun h4 =>
  b2 (mX3_nextFacts x0 h4) fun v5 h6 =>
  (z01 v5).bind fun v => some (v, h6))
  else ((gI 3 3 x0 h).bind fun v7 =>
  (gI 3 2 x0 h).bind fun v8 =>
  (gI 3 2 x0 h).bind fun v9 =>
  (sI 3 3 x0 ((v7 - v8) &&& v9) h).bind fun h10 =>
  some ((1 : Int32), h10)))
  else none

noncomputable def mX4_init (x0 : Nat) (h : Hp) : Option Hp :=
  b2 (newA 51 64 h) fun v2 h1 =>
  (sR 4 0 x0 v2 h1).bind fun h3 =>
  b2 (newA 51 64 h3) fun v5 h4 =>
  (sR 4 1 x0 v5 h4).bind fun h6 =>
  b2 (newA 51 7 h6) fun v8 h7 =>
  (sR 4 2 x0 v8 h7).bind fun h9 =>
  some h9

noncomputable def mX4_glance (x0 : Nat) (x1 : Nat) (x2 : Int32) (x3 : Int32) (x4 : Int32) (h : Hp) : Option (Int32 × Hp) :=
  if (hpS h x0).1 = 5 then
  (sI 4 4 x0 (-1 : Int32) h).bind fun h1 =>
  (sI 4 5 x0 x3 h1).bind fun h2 =>
  (sI 4 6 x0 x4 h2).bind fun h3 =>
  (gR 1 12 x1 h3).bind fun v4 =>
  (gR 1 14 x1 h3).bind fun v5 =>
  (mX11_at v5 x2 h3).bind fun v6 =>
  (gR 1 15 x1 h3).bind fun v8 =>
  (mX11_at v8 x2 h3).bind fun v9 =>
  (mX4_run x0 v4 v6 v9 h3).bind fun h12 =>
  (gR 4 0 x0 h12).bind fun v13 =>
  (mX11_longAt v13 (0 : Int32) h12).bind fun v14 =>
  if (lg_cmp v14 (0 : Int64)) = 0 then
  ((gR 4 1 x0 h12).bind fun v16 =>
  (mX11_longAt v16 (0 : Int32) h12).bind fun v17 =>
  if (lg_cmp v17 (0 : Int64)) = 0 then
  (some ((2 : Int32), h12))
  else (some ((0 : Int32), h12)))
  else (some ((1 : Int32), h12))
  else none

noncomputable def mX5_known (x0 : Nat) (h : Hp) : Option Int32 :=
  if (hpS h x0).1 = 6 then
  (gI 5 4 x0 h).bind fun v1 =>
  (gI 5 7 x0 h).bind fun v2 =>
  some (v1 ||| v2)
  else none

noncomputable def mX5_answered (x0 : Nat) (h : Hp) : Option Int32 :=
  if (hpS h x0).1 = 6 then
  (gI 5 4 x0 h).bind fun v1 =>
  (gI 5 5 x0 h).bind fun v2 =>
  (gI 5 6 x0 h).bind fun v3 =>
  (gI 5 7 x0 h).bind fun v4 =>
  (mJ6_bitCount_0f7a4 (((v1 ||| v2) ||| v3) ||| v4)).bind fun v5 =>
  some v5
  else none

noncomputable def mX5_howIs (x0 : Nat) (x1 : Int32) (h : Hp) : Option Int32 :=
  if (hpS h x0).1 = 6 then
  (gI 5 4 x0 h).bind fun v1 =>
  (mX11_has v1 x1).bind fun v2 =>
  if v2 = 0 then
  ((gI 5 5 x0 h).bind fun v4 =>
  (mX11_has v4 x1).bind fun v5 =>
  if v5 = 0 then
  ((gI 5 6 x0 h).bind fun v7 =>
  (mX11_has v7 x1).bind fun v8 =>
  if v8 = 0 then
  ((gI 5 7 x0 h).bind fun v10 =>
  (mX11_has v10 x1).bind fun v11 =>
  if v11 = 0 then
  (some (0 : Int32))
  else (some (4 : Int32)))
  else (some (3 : Int32)))
  else (some (2 : Int32)))
  else (some (1 : Int32))
  else none

noncomputable def mX5_become_b163 (t0 : Nat) (t1 : Int32) (h : Hp) : Option Hp :=
  (sI 5 8 t0 t1 h).bind fun h10 =>
  some h10
noncomputable def mX5_become_b136 (x0 : Nat) (x4 : Int32) (t0 : Int32) (h : Hp) : Option Hp :=
  if t0 = 0 then
  ((gI 5 8 x0 h).bind fun v9 =>
  mX5_become_b163 x0 (v9 &&& (x4 ^^^ (-1 : Int32))) h)
  else ((gI 5 8 x0 h).bind fun v11 =>
  mX5_become_b163 x0 (v11 ||| x4) h)
noncomputable def mX5_become_b135 (x0 : Nat) (x4 : Int32) (h : Hp) : Option Hp :=
  mX5_become_b136 x0 x4 (0 : Int32) h
noncomputable def mX5_become_b131 (x0 : Nat) (x4 : Int32) (h : Hp) : Option Hp :=
  mX5_become_b136 x0 x4 (1 : Int32) h
noncomputable def mX5_become_b114 (x0 : Nat) (x2 : Int32) (x3 : Int32) (x4 : Int32) (t0 : Nat) (t1 : Int32) (h : Hp) : Option Hp :=
  (sI 5 7 t0 t1 h).bind fun h8 =>
  if x3 = 0 then
  (mX5_become_b135 x0 x4 h8)
  else (if x2 = (1 : Int32) then
  (mX5_become_b131 x0 x4 h8)
  else (if x2 = (4 : Int32) then
  (mX5_become_b131 x0 x4 h8)
  else (mX5_become_b135 x0 x4 h8)))
noncomputable def mX5_become_b86 (x0 : Nat) (x2 : Int32) (x3 : Int32) (x4 : Int32) (t0 : Nat) (t1 : Int32) (h : Hp) : Option Hp :=
  (sI 5 6 t0 t1 h).bind fun h6 =>
  if x2 = (4 : Int32) then
  ((gI 5 7 x0 h6).bind fun v12 =>
  mX5_become_b114 x0 x2 x3 x4 x0 (v12 ||| x4) h6)
  else ((gI 5 7 x0 h6).bind fun v7 =>
  mX5_become_b114 x0 x2 x3 x4 x0 (v7 &&& (x4 ^^^ (-1 : Int32))) h6)
noncomputable def mX5_become_b58 (x0 : Nat) (x2 : Int32) (x3 : Int32) (x4 : Int32) (t0 : Nat) (t1 : Int32) (h : Hp) : Option Hp :=
  (sI 5 5 t0 t1 h).bind fun h4 =>
  if x2 = (3 : Int32) then
  ((gI 5 6 x0 h4).bind fun v13 =>
  mX5_become_b86 x0 x2 x3 x4 x0 (v13 ||| x4) h4)
  else ((gI 5 6 x0 h4).bind fun v5 =>
  mX5_become_b86 x0 x2 x3 x4 x0 (v5 &&& (x4 ^^^ (-1 : Int32))) h4)
noncomputable def mX5_become_b30 (x0 : Nat) (x2 : Int32) (x3 : Int32) (x4 : Int32) (t0 : Nat) (t1 : Int32) (h : Hp) : Option Hp :=
  (sI 5 4 t0 t1 h).bind fun h2 =>
  if x2 = (2 : Int32) then
  ((gI 5 5 x0 h2).bind fun v14 =>
  mX5_become_b58 x0 x2 x3 x4 x0 (v14 ||| x4) h2)
  else ((gI 5 5 x0 h2).bind fun v3 =>
  mX5_become_b58 x0 x2 x3 x4 x0 (v3 &&& (x4 ^^^ (-1 : Int32))) h2)
noncomputable def mX5_become (x0 : Nat) (x1 : Int32) (x2 : Int32) (x3 : Int32) (h : Hp) : Option Hp :=
  if (hpS h x0).1 = 6 then
  if x2 = (1 : Int32) then
  ((gI 5 4 x0 h).bind fun v15 =>
  mX5_become_b30 x0 x2 x3 ((1 : Int32) <<< (x1 &&& 31)) x0 (v15 ||| ((1 : Int32) <<< (x1 &&& 31))) h)
  else ((gI 5 4 x0 h).bind fun v1 =>
  mX5_become_b30 x0 x2 x3 ((1 : Int32) <<< (x1 &&& 31)) x0 (v1 &&& (((1 : Int32) <<< (x1 &&& 31)) ^^^ (-1 : Int32))) h)
  else none

noncomputable def mX5_sayers_b33 (x0 : Nat) (x1 : Int32) (x2 : Int32) (x3 : Int32) (h : Hp) : Option ((Int32 × Int32) ⊕ Int32) :=
  some (.inl (x2, (x3 + (1 : Int32))))
noncomputable def mX5_sayers_l4f (x0 : Nat) (x1 : Int32) (h : Hp) (x2 : Int32) (x3 : Int32) : Option ((Int32 × Int32) ⊕ Int32) :=
  (gI 5 2 x0 h).bind fun v1 =>
  if x3 < v1 then
  ((gR 5 13 x0 h).bind fun v2 =>
  (mX11_at v2 x3 h).bind fun v3 =>
  (mX11_has v3 x1).bind fun v5 =>
  if v5 = 0 then
  (mX5_sayers_b33 x0 x1 x2 x3 h)
  else (mX5_sayers_b33 x0 x1 (x2 ||| ((1 : Int32) <<< (x3 &&& 31))) x3 h))
  else (xt (some x2))
noncomputable def mX5_sayers_l4 (x0 : Nat) (x1 : Int32) (x2 : Int32) (x3 : Int32) (h : Hp) : Option Int32 :=
  lp (fun s : (Int32 × Int32) => mX5_sayers_l4f x0 x1 h s.1 s.2) (x2, x3)
noncomputable def mX5_sayers (x0 : Nat) (x1 : Int32) (h : Hp) : Option Int32 :=
  if (hpS h x0).1 = 6 then
  mX5_sayers_l4 x0 x1 (0 : Int32) (0 : Int32) h
  else none

noncomputable def mX5_firstSayer_b38 (x0 : Nat) (x1 : Int32) (x2 : Int32) (h : Hp) : Option (Int32 ⊕ Int32) :=
  some (.inl (x2 + (1 : Int32)))
noncomputable def mX5_firstSayer_l2f (x0 : Nat) (x1 : Int32) (h : Hp) (x2 : Int32) : Option (Int32 ⊕ Int32) :=
  (gI 5 2 x0 h).bind fun v1 =>
  if x2 < v1 then
  ((gR 5 13 x0 h).bind fun v2 =>
  (mX11_at v2 x2 h).bind fun v3 =>
  (mX11_has v3 x1).bind fun v5 =>
  if v5 = 0 then
  (mX5_firstSayer_b38 x0 x1 x2 h)
  else ((gI 5 3 x0 h).bind fun v7 =>
  (mX11_has v7 x2).bind fun v8 =>
  if v8 = 0 then
  (xt (some x2))
  else (mX5_firstSayer_b38 x0 x1 x2 h)))
  else (xt (some (-1 : Int32)))
noncomputable def mX5_firstSayer_l2 (x0 : Nat) (x1 : Int32) (x2 : Int32) (h : Hp) : Option Int32 :=
  lp (fun s : Int32 => mX5_firstSayer_l2f x0 x1 h s) x2
noncomputable def mX5_firstSayer (x0 : Nat) (x1 : Int32) (h : Hp) : Option Int32 :=
  if (hpS h x0).1 = 6 then
  mX5_firstSayer_l2 x0 x1 (0 : Int32) h
  else none

noncomputable def mX6_init (x0 : Nat) (h : Hp) : Option Hp :=
  b2 (newA 50 256 h) fun v2 h1 =>
  (sR 6 0 x0 v2 h1).bind fun h3 =>
  b2 (newA 50 256 h3) fun v5 h4 =>
  (sR 6 1 x0 v5 h4).bind fun h6 =>
  b2 (newA 50 256 h6) fun v8 h7 =>
  (sR 6 2 x0 v8 h7).bind fun h9 =>
  b2 (newA 51 256 h9) fun v11 h10 =>
  (sR 6 3 x0 v11 h10).bind fun h12 =>
  b2 (newA 50 256 h12) fun v14 h13 =>
  (sR 6 4 x0 v14 h13).bind fun h15 =>
  some h15

noncomputable def mX6_clear (x0 : Nat) (h : Hp) : Option Hp :=
  if (hpS h x0).1 = 7 then
  (sI 6 5 x0 (0 : Int32) h).bind fun h1 =>
  (gR 6 4 x0 h1).bind fun v2 =>
  (mX11_wipe v2 h1).bind fun h4 =>
  some h4
  else none

noncomputable def mX6_enter_b85 (x0 : Nat) (x3 : Int32) (x4 : Int32) (h : Hp) : Option Hp :=
  (gR 6 1 x0 h).bind fun v4 =>
  (gR 6 1 x0 h).bind fun v5 =>
  (mX11_at v5 x4 h).bind fun v6 =>
  (mX11_put v4 x4 (v6 + (1 : Int32)) h).bind fun h9 =>
  (gR 6 3 x0 h9).bind fun v10 =>
  (gR 6 3 x0 h9).bind fun v11 =>
  (mX11_longAt v11 x4 h9).bind fun v12 =>
  (mX11_putLong v10 x4 (v12 + x3.toInt64) h9).bind fun h15 =>
  some h15
noncomputable def mX6_enter (x0 : Nat) (x1 : Int32) (x2 : Int32) (x3 : Int32) (h : Hp) : Option Hp :=
  if (hpS h x0).1 = 7 then
  (gR 6 4 x0 h).bind fun v1 =>
  (mX11_at v1 x1 h).bind fun v2 =>
  if (v2 - (1 : Int32)) < 0 then
  ((gI 6 5 x0 h).bind fun v16 =>
  (gI 6 5 x0 h).bind fun v17 =>
  (sI 6 5 x0 (v17 + (1 : Int32)) h).bind fun h18 =>
  (gR 6 4 x0 h18).bind fun v19 =>
  (gI 6 5 x0 h18).bind fun v20 =>
  (mX11_put v19 x1 v20 h18).bind fun h22 =>
  (gR 6 0 x0 h22).bind fun v23 =>
  (mX11_put v23 v16 x1 h22).bind fun h25 =>
  (gR 6 2 x0 h25).bind fun v26 =>
  (mX11_put v26 v16 x2 h25).bind fun h28 =>
  (gR 6 1 x0 h28).bind fun v29 =>
  (mX11_put v29 v16 (0 : Int32) h28).bind fun h31 =>
  (gR 6 3 x0 h31).bind fun v32 =>
  (mX11_putLong v32 v16 (0 : Int64) h31).bind fun h34 =>
  mX6_enter_b85 x0 x3 v16 h34)
  else (mX6_enter_b85 x0 x3 (v2 - (1 : Int32)) h)
  else none

noncomputable def mX7_init (x0 : Nat) (h : Hp) : Option Hp :=
  b2 (newA 50 480 h) fun v2 h1 =>
  (sR 7 0 x0 v2 h1).bind fun h3 =>
  some h3

noncomputable def mX7_take_l16f (x0 : Nat) (x1 : Int32) (x2 : Int32) (h : Hp) : Option ((Int32 × Hp) ⊕ (Int32 × Hp)) :=
  if x2 < (4 : Int32) then
  ((gR 7 0 x0 h).bind fun v4 =>
  (gI 7 1 x0 h).bind fun v5 =>
  (mX11_put v4 (v5 + x2) ((ushrI x1 ((24 : Int32) - ((8 : Int32) * x2))) &&& (255 : Int32)) h).bind fun h7 =>
  some (.inl ((x2 + (1 : Int32)), h7)))
  else (xt ((gI 7 1 x0 h).bind fun v2 =>
  (sI 7 1 x0 (v2 + (4 : Int32)) h).bind fun h3 =>
  some ((1 : Int32), h3)))
noncomputable def mX7_take_l16 (x0 : Nat) (x1 : Int32) (x2 : Int32) (h : Hp) : Option (Int32 × Hp) :=
  lp (fun s : (Int32 × Hp) => mX7_take_l16f x0 x1 s.1 s.2) (x2, h)
noncomputable def mX7_take (x0 : Nat) (x1 : Int32) (h : Hp) : Option (Int32 × Hp) :=
  if (hpS h x0).1 = 8 then
  (gI 7 1 x0 h).bind fun v1 =>
  if (480 : Int32) < (v1 + (4 : Int32)) then
  (some ((0 : Int32), h))
  else (mX7_take_l16 x0 x1 (0 : Int32) h)
  else none

noncomputable def mX7_cut (x0 : Nat) (x1 : Int32) (h : Hp) : Option (Int32 × Hp) :=
  if (hpS h x0).1 = 8 then
  if x1 < 0 then
  (some ((0 : Int32), h))
  else ((gI 7 1 x0 h).bind fun v1 =>
  if v1 < x1 then
  (some ((0 : Int32), h))
  else ((sI 7 1 x0 x1 h).bind fun h2 =>
  some ((1 : Int32), h2)))
  else none

noncomputable def mX7_read (x0 : Nat) (x1 : Int32) (h : Hp) : Option Int32 :=
  if (hpS h x0).1 = 8 then
  (gI 7 1 x0 h).bind fun v1 =>
  if x1 < v1 then
  ((gR 7 0 x0 h).bind fun v2 =>
  (mX11_at v2 x1 h).bind fun v3 =>
  some v3)
  else (some (0 : Int32))
  else none

noncomputable def mJ0_coder_7d493 (x0 : Nat) (h : Hp) : Option Int32 :=
  if (10 ≤ x0 ∧ x0 < 34) ∨ (hpS h x0).1 = 18 then
  if (1 : Int32) = 0 then
  (zN .byte (1 : Int32))
  else ((sC x0 h).bind fun v1 =>
  zN .byte v1)
  else none

noncomputable def mJ0_length_8abf5 (x0 : Nat) (h : Hp) : Option Int32 :=
  if (10 ≤ x0 ∧ x0 < 34) ∨ (hpS h x0).1 = 18 then
  (sV x0 h).bind fun v1 =>
  (bLn v1 h).bind fun v2 =>
  (mJ0_coder_7d493 x0 h).bind fun v3 =>
  some (v2 >>> (v3 &&& 31))
  else none

noncomputable def mJ0_isLatin1_aae02 (x0 : Nat) (h : Hp) : Option Int32 :=
  if (10 ≤ x0 ∧ x0 < 34) ∨ (hpS h x0).1 = 18 then
  if (1 : Int32) = 0 then
  (some (0 : Int32))
  else ((sC x0 h).bind fun v1 =>
  if v1 = 0 then
  (some (1 : Int32))
  else (some (0 : Int32)))
  else none

noncomputable def mJ3_checkIndex_8e157_b9 (x0 : Int32) (x1 : Int32) (x2 : Nat) : Option Int32 :=
  none
noncomputable def mJ3_checkIndex_8e157 (x0 : Int32) (x1 : Int32) (x2 : Nat) : Option Int32 :=
  if x0 < 0 then
  (mJ3_checkIndex_8e157_b9 x0 x1 x2)
  else (if x0 < x1 then
  (some x0)
  else (mJ3_checkIndex_8e157_b9 x0 x1 x2))

noncomputable def mJ0_checkIndex_df160 (x0 : Int32) (x1 : Int32) : Option Unit :=
  (mJ3_checkIndex_8e157 x0 x1 0).bind fun v1 =>
  some ()

noncomputable def mJ1_charAt_3b067 (x0 : Nat) (x1 : Int32) (h : Hp) : Option Int32 :=
  (bLn x0 h).bind fun v1 =>
  (mJ0_checkIndex_df160 x1 v1).bind fun _ =>
  (bLd x0 x1 h).bind fun v4 =>
  zN .char (i2cV (v4 &&& (255 : Int32)))

noncomputable def mJ0_charAt_5068e (x0 : Nat) (x1 : Int32) (h : Hp) : Option Int32 :=
  if (10 ≤ x0 ∧ x0 < 34) ∨ (hpS h x0).1 = 18 then
  (mJ0_isLatin1_aae02 x0 h).bind fun v1 =>
  if v1 = 0 then
  ((sV x0 h).bind fun v3 =>
  none)
  else ((sV x0 h).bind fun v4 =>
  (mJ1_charAt_3b067 v4 x1 h).bind fun v5 =>
  zN .char v5)
  else none

noncomputable def mX8_withLetter (x0 : Int32) (x1 : Int32) : Option Int32 :=
  some ((x0 <<< ((5 : Int32) &&& 31)) ||| ((x1 - (97 : Int32)) + (1 : Int32)))

noncomputable def mX8_reservedLetters_b53 (x0 : Int32) (x1 : Int32) (x2 : Int32) (h : Hp) : Option ((Int32 × Int32) ⊕ Int32) :=
  some (.inl (x1, (x2 + (1 : Int32))))
noncomputable def mX8_reservedLetters_b37 (x0 : Int32) (x1 : Int32) (x2 : Int32) (t0 : Int32) (h : Hp) : Option ((Int32 × Int32) ⊕ Int32) :=
  if t0 = (32 : Int32) then
  (mX8_reservedLetters_b53 x0 x1 x2 h)
  else ((mX8_withLetter x1 t0).bind fun v3 =>
  mX8_reservedLetters_b53 x0 v3 x2 h)
noncomputable def mX8_reservedLetters_l4f (x0 : Int32) (h : Hp) (x1 : Int32) (x2 : Int32) : Option ((Int32 × Int32) ⊕ Int32) :=
  if x2 < (6 : Int32) then
  ((mJ0_length_8abf5 10 h).bind fun v1 =>
  if ((x0 * (6 : Int32)) + x2) < v1 then
  ((mJ0_charAt_5068e 10 ((x0 * (6 : Int32)) + x2) h).bind fun v5 =>
  mX8_reservedLetters_b37 x0 x1 x2 v5 h)
  else (mX8_reservedLetters_b37 x0 x1 x2 (32 : Int32) h))
  else (xt (some x1))
noncomputable def mX8_reservedLetters_l4 (x0 : Int32) (x1 : Int32) (x2 : Int32) (h : Hp) : Option Int32 :=
  lp (fun s : (Int32 × Int32) => mX8_reservedLetters_l4f x0 h s.1 s.2) (x1, x2)
noncomputable def mX8_reservedLetters (x0 : Int32) (h : Hp) : Option Int32 :=
  mX8_reservedLetters_l4 x0 (0 : Int32) (0 : Int32) h

noncomputable def mX8_init_l41f (x0 : Nat) (x1 : Int32) (h : Hp) : Option ((Int32 × Hp) ⊕ Hp) :=
  if x1 < (11 : Int32) then
  ((gR 8 3 x0 h).bind fun v13 =>
  (mX8_reservedLetters x1 h).bind fun v14 =>
  (mX11_put v13 x1 v14 h).bind fun h17 =>
  some (.inl ((x1 + (1 : Int32)), h17)))
  else (xt (some h))
noncomputable def mX8_init_l41 (x0 : Nat) (x1 : Int32) (h : Hp) : Option Hp :=
  lp (fun s : (Int32 × Hp) => mX8_init_l41f x0 s.1 s.2) (x1, h)
noncomputable def mX8_init (x0 : Nat) (h : Hp) : Option Hp :=
  b2 (newA 50 481 h) fun v2 h1 =>
  (sR 8 0 x0 v2 h1).bind fun h3 =>
  b2 (newA 50 481 h3) fun v5 h4 =>
  (sR 8 1 x0 v5 h4).bind fun h6 =>
  b2 (newA 50 481 h6) fun v8 h7 =>
  (sR 8 2 x0 v8 h7).bind fun h9 =>
  b2 (newA 50 11 h9) fun v11 h10 =>
  (sR 8 3 x0 v11 h10).bind fun h12 =>
  mX8_init_l41 x0 (0 : Int32) h12

noncomputable def mX8_runEnd_l6f (x0 : Nat) (x2 : Int32) (x3 : Int32) (h : Hp) (x4 : Int32) (x5 : Int32) : Option ((Int32 × Int32) ⊕ Int32) :=
  (gI 7 1 x0 h).bind fun v1 =>
  if x5 < v1 then
  ((mX7_read x0 x5 h).bind fun v2 =>
  if v2 < x2 then
  (xt (some x4))
  else (if x3 < v2 then
  (xt (some x4))
  else (some (.inl ((x5 + (1 : Int32)), (x5 + (1 : Int32)))))))
  else (xt (some x4))
noncomputable def mX8_runEnd_l6 (x0 : Nat) (x2 : Int32) (x3 : Int32) (x4 : Int32) (x5 : Int32) (h : Hp) : Option Int32 :=
  lp (fun s : (Int32 × Int32) => mX8_runEnd_l6f x0 x2 x3 h s.1 s.2) (x4, x5)
noncomputable def mX8_runEnd (x0 : Nat) (x1 : Int32) (x2 : Int32) (x3 : Int32) (h : Hp) : Option Int32 :=
  mX8_runEnd_l6 x0 x2 x3 x1 x1 h

noncomputable def mX8_note (x0 : Nat) (x1 : Int32) (x2 : Int32) (x3 : Int32) (h : Hp) : Option Hp :=
  if (hpS h x0).1 = 9 then
  (gR 8 0 x0 h).bind fun v1 =>
  (gI 8 4 x0 h).bind fun v2 =>
  (mX11_put v1 v2 x1 h).bind fun h4 =>
  (gR 8 1 x0 h4).bind fun v5 =>
  (gI 8 4 x0 h4).bind fun v6 =>
  (mX11_put v5 v6 x2 h4).bind fun h8 =>
  (gR 8 2 x0 h8).bind fun v9 =>
  (gI 8 4 x0 h8).bind fun v10 =>
  (mX11_put v9 v10 x3 h8).bind fun h12 =>
  (gI 8 4 x0 h12).bind fun v13 =>
  (sI 8 4 x0 (v13 + (1 : Int32)) h12).bind fun h14 =>
  some h14
  else none

noncomputable def mX8_noteWord_b82 (x0 : Nat) (x2 : Int32) (x4 : Int32) (x5 : Int32) (x6 : Int32) (h : Hp) : Option ((Int32 × Int32) ⊕ Hp) :=
  some (.inl (x5, (x6 + (1 : Int32))))
noncomputable def mX8_noteWord_l53f (x0 : Nat) (x2 : Int32) (x4 : Int32) (h : Hp) (x5 : Int32) (x6 : Int32) : Option ((Int32 × Int32) ⊕ Hp) :=
  if x6 < (11 : Int32) then
  ((gR 8 3 x0 h).bind fun v3 =>
  (mX11_at v3 x6 h).bind fun v4 =>
  if v4 = x4 then
  (mX8_noteWord_b82 x0 x2 x4 ((256 : Int32) + x6) x6 h)
  else (mX8_noteWord_b82 x0 x2 x4 x5 x6 h))
  else (xt ((mX8_note x0 x5 x2 x4 h).bind fun h2 =>
  some h2))
noncomputable def mX8_noteWord_l53 (x0 : Nat) (x2 : Int32) (x4 : Int32) (x5 : Int32) (x6 : Int32) (h : Hp) : Option Hp :=
  lp (fun s : (Int32 × Int32) => mX8_noteWord_l53f x0 x2 x4 h s.1 s.2) (x5, x6)
noncomputable def mX8_noteWord_l22f (x0 : Nat) (x1 : Nat) (x2 : Int32) (x3 : Int32) (h : Hp) (x4 : Int32) (x5 : Int32) : Option ((Int32 × Int32) ⊕ Hp) :=
  if x5 < x3 then
  ((mX7_read x1 x5 h).bind fun v6 =>
  (mX8_withLetter x4 v6).bind fun v8 =>
  some (.inl (v8, (x5 + (1 : Int32)))))
  else (xt (mX8_noteWord_l53 x0 x2 x4 (2 : Int32) (0 : Int32) h))
noncomputable def mX8_noteWord_l22 (x0 : Nat) (x1 : Nat) (x2 : Int32) (x3 : Int32) (x4 : Int32) (x5 : Int32) (h : Hp) : Option Hp :=
  lp (fun s : (Int32 × Int32) => mX8_noteWord_l22f x0 x1 x2 x3 h s.1 s.2) (x4, x5)
noncomputable def mX8_noteWord (x0 : Nat) (x1 : Nat) (x2 : Int32) (x3 : Int32) (h : Hp) : Option Hp :=
  if (hpS h x0).1 = 9 then
  if (6 : Int32) < (x3 - x2) then
  ((mX8_note x0 (1 : Int32) x2 (0 : Int32) h).bind fun h11 =>
  some h11)
  else (mX8_noteWord_l22 x0 x1 x2 x3 (0 : Int32) x2 h)
  else none

noncomputable def mX8_noteNumber_l21f (x0 : Nat) (x1 : Nat) (x2 : Int32) (x3 : Int32) (h : Hp) (x4 : Int32) (x5 : Int32) : Option ((Int32 × Int32) ⊕ Hp) :=
  if x5 < x3 then
  ((mX7_read x1 x5 h).bind fun v3 =>
  some (.inl ((((x4 * (10 : Int32)) + v3) - (48 : Int32)), (x5 + (1 : Int32)))))
  else (xt ((mX8_note x0 (3 : Int32) x2 x4 h).bind fun h2 =>
  some h2))
noncomputable def mX8_noteNumber_l21 (x0 : Nat) (x1 : Nat) (x2 : Int32) (x3 : Int32) (x4 : Int32) (x5 : Int32) (h : Hp) : Option Hp :=
  lp (fun s : (Int32 × Int32) => mX8_noteNumber_l21f x0 x1 x2 x3 h s.1 s.2) (x4, x5)
noncomputable def mX8_noteNumber (x0 : Nat) (x1 : Nat) (x2 : Int32) (x3 : Int32) (h : Hp) : Option Hp :=
  if (hpS h x0).1 = 9 then
  if (3 : Int32) < (x3 - x2) then
  ((mX8_note x0 (1 : Int32) x2 (0 : Int32) h).bind fun h6 =>
  some h6)
  else (mX8_noteNumber_l21 x0 x1 x2 x3 (0 : Int32) x2 h)
  else none

noncomputable def mJ1_canEncode_9a6ad (x0 : Int32) : Option Int32 :=
  if x0 < 0 then
  (some (0 : Int32))
  else (if (255 : Int32) < x0 then
  (some (0 : Int32))
  else (some (1 : Int32)))

noncomputable def mJ1_indexOfChar_4cfef_l7f (x0 : Nat) (x3 : Int32) (x4 : Int32) (h : Hp) (x5 : Int32) : Option (Int32 ⊕ Int32) :=
  if x5 < x3 then
  ((bLd x0 x5 h).bind fun v1 =>
  if v1 = x4 then
  (xt (some x5))
  else (some (.inl (x5 + (1 : Int32)))))
  else (xt (some (-1 : Int32)))
noncomputable def mJ1_indexOfChar_4cfef_l7 (x0 : Nat) (x3 : Int32) (x4 : Int32) (x5 : Int32) (h : Hp) : Option Int32 :=
  lp (fun s : Int32 => mJ1_indexOfChar_4cfef_l7f x0 x3 x4 h s) x5
noncomputable def mJ1_indexOfChar_4cfef (x0 : Nat) (x1 : Int32) (x2 : Int32) (x3 : Int32) (h : Hp) : Option Int32 :=
  mJ1_indexOfChar_4cfef_l7 x0 x3 x1.toInt8.toInt32 x2 h

noncomputable def mJ1_indexOf_4cfef (x0 : Nat) (x1 : Int32) (x2 : Int32) (x3 : Int32) (h : Hp) : Option Int32 :=
  (mJ1_canEncode_9a6ad x1).bind fun v1 =>
  if v1 = 0 then
  (some (-1 : Int32))
  else ((bLn x0 h).bind fun v3 =>
  if (mmax x2 (0 : Int32)) < (mmin x3 v3) then
  ((mJ1_indexOfChar_4cfef x0 x1 (mmax x2 (0 : Int32)) (mmin x3 v3) h).bind fun v4 =>
  some v4)
  else (some (-1 : Int32)))

noncomputable def mJ0_indexOf_7cf53 (x0 : Nat) (x1 : Int32) (x2 : Int32) (h : Hp) : Option Int32 :=
  if (10 ≤ x0 ∧ x0 < 34) ∨ (hpS h x0).1 = 18 then
  (mJ0_isLatin1_aae02 x0 h).bind fun v1 =>
  if v1 = 0 then
  ((sV x0 h).bind fun v3 =>
  (mJ0_length_8abf5 x0 h).bind fun v4 =>
  none)
  else ((sV x0 h).bind fun v6 =>
  (mJ0_length_8abf5 x0 h).bind fun v7 =>
  (mJ1_indexOf_4cfef v6 x1 x2 v7 h).bind fun v9 =>
  some v9)
  else none

noncomputable def mJ0_indexOf_0f7a4 (x0 : Nat) (x1 : Int32) (h : Hp) : Option Int32 :=
  if (10 ≤ x0 ∧ x0 < 34) ∨ (hpS h x0).1 = 18 then
  (mJ0_indexOf_7cf53 x0 x1 (0 : Int32) h).bind fun v1 =>
  some v1
  else none

noncomputable def mX8_cutOne_b96 (x2 : Int32) (t0 : Nat) (t1 : Int32) (h : Hp) : Option (Int32 × Hp) :=
  (mX8_note t0 t1 x2 (0 : Int32) h).bind fun h4 =>
  some ((x2 + (1 : Int32)), h4)
noncomputable def mX8_cutOne_b83 (x0 : Nat) (x2 : Int32) (x3 : Int32) (t0 : Int32) (h : Hp) : Option (Int32 × Hp) :=
  if t0 = 0 then
  (mX8_cutOne_b96 x2 x0 (1 : Int32) h)
  else (mX8_cutOne_b96 x2 x0 x3 h)
noncomputable def mX8_cutOne_b68 (x0 : Nat) (x2 : Int32) (x3 : Int32) (h : Hp) : Option (Int32 × Hp) :=
  (mJ0_indexOf_0f7a4 11 (i2cV x3) h).bind fun v1 =>
  if v1 < 0 then
  (mX8_cutOne_b83 x0 x2 x3 (0 : Int32) h)
  else (mX8_cutOne_b83 x0 x2 x3 (1 : Int32) h)
noncomputable def mX8_cutOne_b34 (x0 : Nat) (x1 : Nat) (x2 : Int32) (x3 : Int32) (h : Hp) : Option (Int32 × Hp) :=
  if x3 < (48 : Int32) then
  (mX8_cutOne_b68 x0 x2 x3 h)
  else (if (57 : Int32) < x3 then
  (mX8_cutOne_b68 x0 x2 x3 h)
  else ((mX8_runEnd x1 x2 (48 : Int32) (57 : Int32) h).bind fun v5 =>
  (mX8_noteNumber x0 x1 x2 v5 h).bind fun h8 =>
  some (v5, h8)))
noncomputable def mX8_cutOne (x0 : Nat) (x1 : Nat) (x2 : Int32) (x3 : Int32) (h : Hp) : Option (Int32 × Hp) :=
  if (hpS h x0).1 = 9 then
  if x3 < (97 : Int32) then
  (mX8_cutOne_b34 x0 x1 x2 x3 h)
  else (if (122 : Int32) < x3 then
  (mX8_cutOne_b34 x0 x1 x2 x3 h)
  else ((mX8_runEnd x1 x2 (97 : Int32) (122 : Int32) h).bind fun v9 =>
  (mX8_noteWord x0 x1 x2 v9 h).bind fun h12 =>
  some (v9, h12)))
  else none

noncomputable def mX8_split_b66 (x0 : Nat) (x1 : Nat) (h : Hp) : Option Hp :=
  (gI 7 1 x1 h).bind fun v2 =>
  (mX8_note x0 (0 : Int32) v2 (0 : Int32) h).bind fun h4 =>
  some h4
noncomputable def mX8_split_b60 (x0 : Nat) (x1 : Nat) (x2 : Int32) (x3 : Int32) (h : Hp) : Option ((Int32 × Int32 × Hp) ⊕ Hp) :=
  some (.inl (x2, (x3 + (1 : Int32)), h))
noncomputable def mX8_split_b45 (x0 : Nat) (x1 : Nat) (x2 : Int32) (x3 : Int32) (h : Hp) : Option ((Int32 × Int32 × Hp) ⊕ Hp) :=
  mX8_split_b60 x0 x1 (x2 + (1 : Int32)) x3 h
noncomputable def mX8_split_l9f (x0 : Nat) (x1 : Nat) (x2 : Int32) (x3 : Int32) (h : Hp) : Option ((Int32 × Int32 × Hp) ⊕ Hp) :=
  if x3 < (480 : Int32) then
  ((gI 7 1 x1 h).bind fun v5 =>
  if x2 < v5 then
  ((mX7_read x1 x2 h).bind fun v6 =>
  if v6 = (10 : Int32) then
  (mX8_split_b45 x0 x1 x2 x3 h)
  else (if v6 = (32 : Int32) then
  (mX8_split_b45 x0 x1 x2 x3 h)
  else (b2 (mX8_cutOne x0 x1 x2 v6 h) fun v8 h9 =>
  mX8_split_b60 x0 x1 v8 x3 h9)))
  else (xt (mX8_split_b66 x0 x1 h)))
  else (xt (mX8_split_b66 x0 x1 h))
noncomputable def mX8_split_l9 (x0 : Nat) (x1 : Nat) (x2 : Int32) (x3 : Int32) (h : Hp) : Option Hp :=
  lp (fun s : (Int32 × Int32 × Hp) => mX8_split_l9f x0 x1 s.1 s.2.1 s.2.2) (x2, x3, h)
noncomputable def mX8_split (x0 : Nat) (x1 : Nat) (h : Hp) : Option Hp :=
  if (hpS h x0).1 = 9 then
  (sI 8 4 x0 (0 : Int32) h).bind fun h1 =>
  mX8_split_l9 x0 x1 (0 : Int32) (0 : Int32) h1
  else none

noncomputable def mX9_init_l42f (x0 : Nat) (x1 : Int32) (h : Hp) : Option ((Int32 × Hp) ⊕ Hp) :=
  if x1 < (256 : Int32) then
  ((gR 9 0 x0 h).bind fun v13 =>
  (gR 9 0 x0 h).bind fun v14 =>
  (mX11_at v14 (x1 >>> ((1 : Int32) &&& 31)) h).bind fun v15 =>
  (mX11_put v13 x1 ((v15 * (3 : Int32)) + (x1 &&& (1 : Int32))) h).bind fun h18 =>
  some (.inl ((x1 + (1 : Int32)), h18)))
  else (xt (some h))
noncomputable def mX9_init_l42 (x0 : Nat) (x1 : Int32) (h : Hp) : Option Hp :=
  lp (fun s : (Int32 × Hp) => mX9_init_l42f x0 s.1 s.2) (x1, h)
noncomputable def mX9_init (x0 : Nat) (h : Hp) : Option Hp :=
  b2 (newA 50 256 h) fun v2 h1 =>
  (sR 9 0 x0 v2 h1).bind fun h3 =>
  b2 (newA 50 256 h3) fun v5 h4 =>
  (sR 9 1 x0 v5 h4).bind fun h6 =>
  b2 (newA 50 6561 h6) fun v8 h7 =>
  (sR 9 2 x0 v8 h7).bind fun h9 =>
  b2 (newA 50 6561 h9) fun v11 h10 =>
  (sR 9 3 x0 v11 h10).bind fun h12 =>
  mX9_init_l42 x0 (1 : Int32) h12

noncomputable def mX9_node (x0 : Nat) (x1 : Int32) (x2 : Int32) (h : Hp) : Option Int32 :=
  if (hpS h x0).1 = 10 then
  (gR 9 0 x0 h).bind fun v1 =>
  (mX11_at v1 x1 h).bind fun v2 =>
  (gR 9 0 x0 h).bind fun v4 =>
  (mX11_at v4 x2 h).bind fun v5 =>
  some (v2 + v5)
  else none

noncomputable def mX9_markOf (x0 : Nat) (x1 : Int32) (x2 : Int32) (h : Hp) : Option Int32 :=
  if (hpS h x0).1 = 10 then
  (gR 9 2 x0 h).bind fun v1 =>
  (mX9_node x0 x1 x2 h).bind fun v2 =>
  (mX11_at v1 v2 h).bind fun v4 =>
  some v4
  else none

noncomputable def mX9_value (x0 : Nat) (h : Hp) : Option Int32 :=
  if (hpS h x0).1 = 10 then
  (gR 9 3 x0 h).bind fun v1 =>
  (mX11_at v1 (0 : Int32) h).bind fun v2 =>
  some v2
  else none

noncomputable def mX9_setLeaf (x0 : Nat) (x1 : Int32) (x2 : Int32) (h : Hp) : Option Hp :=
  if (hpS h x0).1 = 10 then
  (gR 9 1 x0 h).bind fun v1 =>
  (mX11_put v1 x1 x2 h).bind fun h3 =>
  some h3
  else none

noncomputable def mX9_markFrom (x0 : Nat) (x1 : Int32) (x2 : Int32) (h : Hp) : Option Int32 :=
  if (hpS h x0).1 = 10 then
  (gR 9 0 x0 h).bind fun v1 =>
  (mX11_at v1 (x2 &&& (-x2)) h).bind fun v2 =>
  (gR 9 2 x0 h).bind fun v4 =>
  (mX11_at v4 (x1 + v2) h).bind fun v5 =>
  (gR 9 2 x0 h).bind fun v7 =>
  (mX11_at v7 (x1 + ((2 : Int32) * v2)) h).bind fun v8 =>
  some (v5 ||| v8)
  else none

noncomputable def mX9_grow_b103 (x0 : Nat) (x2 : Int32) (x3 : Int32) (h : Hp) : Option ((Int32 × Hp) ⊕ Hp) :=
  some (.inl ((x3 + (-1 : Int32)), h))
noncomputable def mX9_grow_b97 (x0 : Nat) (x2 : Int32) (x3 : Int32) (x4 : Int32) (h : Hp) : Option ((Int32 × Hp) ⊕ ((Int32 × Hp) ⊕ Hp)) :=
  some (.inl ((x4 + (-1 : Int32)), h))
noncomputable def mX9_grow_b94 (x0 : Nat) (x2 : Int32) (x3 : Int32) (x4 : Int32) (t0 : Nat) (t1 : Int32) (t2 : Int32) (h : Hp) : Option ((Int32 × Hp) ⊕ ((Int32 × Hp) ⊕ Hp)) :=
  (mX11_put t0 t1 t2 h).bind fun h11 =>
  mX9_grow_b97 x0 x2 x3 x4 h11
noncomputable def mX9_grow_l17f (x0 : Nat) (x2 : Int32) (x3 : Int32) (x4 : Int32) (h : Hp) : Option ((Int32 × Hp) ⊕ ((Int32 × Hp) ⊕ Hp)) :=
  if x4 < 0 then
  (xt (mX9_grow_b103 x0 x2 x3 h))
  else ((gI 9 4 x0 h).bind fun v3 =>
  if (x3 &&& (v3 ^^^ (-1 : Int32))) = 0 then
  (if (x4 &&& (x3 ^^^ (-1 : Int32))) = 0 then
  ((mX9_node x0 x3 x4 h).bind fun v4 =>
  (gI 9 4 x0 h).bind fun v6 =>
  (gR 9 2 x0 h).bind fun v7 =>
  if (v6 &&& (x3 ^^^ (-1 : Int32))) = 0 then
  ((gR 9 1 x0 h).bind fun v12 =>
  (mX11_at v12 (x4 ||| x2) h).bind fun v13 =>
  mX9_grow_b94 x0 x2 x3 x4 v7 v4 v13 h)
  else ((mX9_markFrom x0 v4 (v6 &&& (x3 ^^^ (-1 : Int32))) h).bind fun v8 =>
  mX9_grow_b94 x0 x2 x3 x4 v7 v4 v8 h))
  else (mX9_grow_b97 x0 x2 x3 x4 h))
  else (xt (mX9_grow_b103 x0 x2 x3 h)))
noncomputable def mX9_grow_l17 (x0 : Nat) (x2 : Int32) (x3 : Int32) (x4 : Int32) (h : Hp) : Option ((Int32 × Hp) ⊕ Hp) :=
  lp (fun s : (Int32 × Hp) => mX9_grow_l17f x0 x2 x3 s.1 s.2) (x4, h)
noncomputable def mX9_grow_l10f (x0 : Nat) (x2 : Int32) (x3 : Int32) (h : Hp) : Option ((Int32 × Hp) ⊕ Hp) :=
  if x3 < 0 then
  (xt (some h))
  else (mX9_grow_l17 x0 x2 x3 x3 h)
noncomputable def mX9_grow_l10 (x0 : Nat) (x2 : Int32) (x3 : Int32) (h : Hp) : Option Hp :=
  lp (fun s : (Int32 × Hp) => mX9_grow_l10f x0 x2 s.1 s.2) (x3, h)
noncomputable def mX9_grow (x0 : Nat) (x1 : Int32) (x2 : Int32) (h : Hp) : Option Hp :=
  if (hpS h x0).1 = 10 then
  (sI 9 4 x0 x1 h).bind fun h1 =>
  (gI 9 4 x0 h1).bind fun v2 =>
  mX9_grow_l10 x0 x2 v2 h1
  else none

noncomputable def mX9_trialsBy (x0 : Nat) (x1 : Int32) (x2 : Int32) (h : Hp) : Option Int32 :=
  if (hpS h x0).1 = 10 then
  (gR 9 0 x0 h).bind fun v1 =>
  (mX11_at v1 ((1 : Int32) <<< (x1 &&& 31)) h).bind fun v2 =>
  (gR 9 3 x0 h).bind fun v4 =>
  (mX11_at v4 (x2 + v2) h).bind fun v5 =>
  (gR 9 3 x0 h).bind fun v7 =>
  (mX11_at v7 (x2 + ((2 : Int32) * v2)) h).bind fun v8 =>
  some ((1 : Int32) + (mmax v5 v8))
  else none

noncomputable def mX9_fewestTrials_b41 (x0 : Nat) (x1 : Int32) (x2 : Int32) (x3 : Int32) (x4 : Int32) (h : Hp) : Option ((Int32 × Int32) ⊕ Int32) :=
  some (.inl (x3, (x4 + (1 : Int32))))
noncomputable def mX9_fewestTrials_l6f (x0 : Nat) (x1 : Int32) (x2 : Int32) (h : Hp) (x3 : Int32) (x4 : Int32) : Option ((Int32 × Int32) ⊕ Int32) :=
  if x4 < (8 : Int32) then
  ((gI 9 4 x0 h).bind fun v1 =>
  (mX11_has (v1 &&& (x1 ^^^ (-1 : Int32))) x4).bind fun v2 =>
  if v2 = 0 then
  (mX9_fewestTrials_b41 x0 x1 x2 x3 x4 h)
  else ((mX9_trialsBy x0 x4 x2 h).bind fun v4 =>
  mX9_fewestTrials_b41 x0 x1 x2 (mmin x3 v4) x4 h))
  else (xt (some x3))
noncomputable def mX9_fewestTrials_l6 (x0 : Nat) (x1 : Int32) (x2 : Int32) (x3 : Int32) (x4 : Int32) (h : Hp) : Option Int32 :=
  lp (fun s : (Int32 × Int32) => mX9_fewestTrials_l6f x0 x1 x2 h s.1 s.2) (x3, x4)
noncomputable def mX9_fewestTrials (x0 : Nat) (x1 : Int32) (x2 : Int32) (h : Hp) : Option Int32 :=
  if (hpS h x0).1 = 10 then
  mX9_fewestTrials_l6 x0 x1 x2 (8 : Int32) (0 : Int32) h
  else none

noncomputable def mX9_countTrials_b77 (x0 : Nat) (x1 : Int32) (h : Hp) : Option ((Int32 × Hp) ⊕ Hp) :=
  some (.inl ((x1 + (-1 : Int32)), h))
noncomputable def mX9_countTrials_b71 (x0 : Nat) (x1 : Int32) (x2 : Int32) (h : Hp) : Option ((Int32 × Hp) ⊕ ((Int32 × Hp) ⊕ Hp)) :=
  some (.inl ((x2 + (-1 : Int32)), h))
noncomputable def mX9_countTrials_b68 (x0 : Nat) (x1 : Int32) (x2 : Int32) (t0 : Nat) (t1 : Int32) (t2 : Int32) (h : Hp) : Option ((Int32 × Hp) ⊕ ((Int32 × Hp) ⊕ Hp)) :=
  (mX11_put t0 t1 t2 h).bind fun h10 =>
  mX9_countTrials_b71 x0 x1 x2 h10
noncomputable def mX9_countTrials_l11f (x0 : Nat) (x1 : Int32) (x2 : Int32) (h : Hp) : Option ((Int32 × Hp) ⊕ ((Int32 × Hp) ⊕ Hp)) :=
  if x2 < 0 then
  (xt (mX9_countTrials_b77 x0 x1 h))
  else ((gI 9 4 x0 h).bind fun v2 =>
  if (x1 &&& (v2 ^^^ (-1 : Int32))) = 0 then
  (if (x2 &&& (x1 ^^^ (-1 : Int32))) = 0 then
  ((mX9_node x0 x1 x2 h).bind fun v3 =>
  (gR 9 3 x0 h).bind fun v5 =>
  (gR 9 2 x0 h).bind fun v6 =>
  (mX11_at v6 v3 h).bind fun v7 =>
  if v7 = (3 : Int32) then
  ((mX9_fewestTrials x0 x1 v3 h).bind fun v11 =>
  mX9_countTrials_b68 x0 x1 x2 v5 v3 v11 h)
  else (mX9_countTrials_b68 x0 x1 x2 v5 v3 (0 : Int32) h))
  else (mX9_countTrials_b71 x0 x1 x2 h))
  else (xt (mX9_countTrials_b77 x0 x1 h)))
noncomputable def mX9_countTrials_l11 (x0 : Nat) (x1 : Int32) (x2 : Int32) (h : Hp) : Option ((Int32 × Hp) ⊕ Hp) :=
  lp (fun s : (Int32 × Hp) => mX9_countTrials_l11f x0 x1 s.1 s.2) (x2, h)
noncomputable def mX9_countTrials_l5f (x0 : Nat) (x1 : Int32) (h : Hp) : Option ((Int32 × Hp) ⊕ Hp) :=
  if x1 < 0 then
  (xt (some h))
  else (mX9_countTrials_l11 x0 x1 x1 h)
noncomputable def mX9_countTrials_l5 (x0 : Nat) (x1 : Int32) (h : Hp) : Option Hp :=
  lp (fun s : (Int32 × Hp) => mX9_countTrials_l5f x0 s.1 s.2) (x1, h)
noncomputable def mX9_countTrials (x0 : Nat) (h : Hp) : Option Hp :=
  if (hpS h x0).1 = 10 then
  (gI 9 4 x0 h).bind fun v1 =>
  mX9_countTrials_l5 x0 v1 h
  else none

noncomputable def mX9_firstTrial_b34 (x0 : Nat) (x1 : Int32) (h : Hp) : Option (Int32 ⊕ Int32) :=
  some (.inl (x1 + (1 : Int32)))
noncomputable def mX9_firstTrial_l2f (x0 : Nat) (h : Hp) (x1 : Int32) : Option (Int32 ⊕ Int32) :=
  if x1 < (8 : Int32) then
  ((gI 9 4 x0 h).bind fun v1 =>
  (mX11_has v1 x1).bind fun v2 =>
  if v2 = 0 then
  (mX9_firstTrial_b34 x0 x1 h)
  else ((mX9_trialsBy x0 x1 (0 : Int32) h).bind fun v4 =>
  (mX9_value x0 h).bind fun v6 =>
  if v4 = v6 then
  (xt (some x1))
  else (mX9_firstTrial_b34 x0 x1 h)))
  else (xt (some (-1 : Int32)))
noncomputable def mX9_firstTrial_l2 (x0 : Nat) (x1 : Int32) (h : Hp) : Option Int32 :=
  lp (fun s : Int32 => mX9_firstTrial_l2f x0 h s) x1
noncomputable def mX9_firstTrial (x0 : Nat) (h : Hp) : Option Int32 :=
  if (hpS h x0).1 = 10 then
  mX9_firstTrial_l2 x0 (0 : Int32) h
  else none

noncomputable def mX9_leadsTo (x0 : Nat) (x1 : Int32) (x2 : Int32) (h : Hp) : Option Int32 :=
  if (hpS h x0).1 = 10 then
  (gR 9 2 x0 h).bind fun v1 =>
  (mX11_at v1 x1 h).bind fun v2 =>
  if v2 = 0 then
  (some (0 : Int32))
  else ((gR 9 3 x0 h).bind fun v4 =>
  (mX11_at v4 x1 h).bind fun v5 =>
  if v5 = x2 then
  (some (1 : Int32))
  else (some (0 : Int32)))
  else none

noncomputable def mX9_bestTurn_b77 (x0 : Nat) (x1 : Int32) (x2 : Int32) (x3 : Int32) (x4 : Int32) (h : Hp) : Option (Int32 ⊕ Int32) :=
  some (.inl (x4 + (1 : Int32)))
noncomputable def mX9_bestTurn_l3f (x0 : Nat) (x1 : Int32) (x2 : Int32) (x3 : Int32) (h : Hp) (x4 : Int32) : Option (Int32 ⊕ Int32) :=
  if x4 < (8 : Int32) then
  ((gI 9 4 x0 h).bind fun v1 =>
  (mX11_has (v1 &&& (x1 ^^^ (-1 : Int32))) x4).bind fun v2 =>
  if v2 = 0 then
  (mX9_bestTurn_b77 x0 x1 x2 x3 x4 h)
  else ((gR 9 0 x0 h).bind fun v4 =>
  (mX11_at v4 ((1 : Int32) <<< (x4 &&& 31)) h).bind fun v5 =>
  (mX9_leadsTo x0 (x2 + v5) x3 h).bind fun v7 =>
  if v7 = 0 then
  ((mX9_leadsTo x0 (x2 + ((2 : Int32) * v5)) x3 h).bind fun v9 =>
  if v9 = 0 then
  (mX9_bestTurn_b77 x0 x1 x2 x3 x4 h)
  else (xt (some (((2 : Int32) * x4) + (1 : Int32)))))
  else (xt (some ((2 : Int32) * x4)))))
  else (xt (some (-1 : Int32)))
noncomputable def mX9_bestTurn_l3 (x0 : Nat) (x1 : Int32) (x2 : Int32) (x3 : Int32) (x4 : Int32) (h : Hp) : Option Int32 :=
  lp (fun s : Int32 => mX9_bestTurn_l3f x0 x1 x2 x3 h s) x4
noncomputable def mX9_bestTurn (x0 : Nat) (x1 : Int32) (x2 : Int32) (x3 : Int32) (h : Hp) : Option Int32 :=
  if (hpS h x0).1 = 10 then
  mX9_bestTurn_l3 x0 x1 x2 x3 (0 : Int32) h
  else none

noncomputable def mX9_winner (x0 : Nat) (x1 : Int32) (x2 : Int32) (x3 : Int32) (h : Hp) : Option Int32 :=
  if (hpS h x0).1 = 10 then
  (gI 9 4 x0 h).bind fun v1 =>
  if x1 = v1 then
  ((gR 9 2 x0 h).bind fun v4 =>
  (mX11_at v4 x2 h).bind fun v5 =>
  if v5 = (1 : Int32) then
  (some (1 : Int32))
  else (some (0 : Int32)))
  else ((mX9_bestTurn x0 x1 x2 ((1 : Int32) - x3) h).bind fun v2 =>
  if v2 < 0 then
  (some ((1 : Int32) - ((1 : Int32) - x3)))
  else (some ((1 : Int32) - x3)))
  else none

noncomputable def mX9_playOut_b78 (x0 : Nat) (x1 : Int32) (x2 : Int32) (h : Hp) : Option ((Int32 × Hp) ⊕ Hp) :=
  some (.inl ((x2 + (-1 : Int32)), h))
noncomputable def mX9_playOut_b72 (x0 : Nat) (x1 : Int32) (x2 : Int32) (x3 : Int32) (x4 : Int32) (h : Hp) : Option ((Int32 × Hp) ⊕ ((Int32 × Hp) ⊕ Hp)) :=
  some (.inl ((x4 + (-1 : Int32)), h))
noncomputable def mX9_playOut_l21f (x0 : Nat) (x1 : Int32) (x2 : Int32) (x3 : Int32) (x4 : Int32) (h : Hp) : Option ((Int32 × Hp) ⊕ ((Int32 × Hp) ⊕ Hp)) :=
  if x4 < 0 then
  (xt (mX9_playOut_b78 x0 x1 x2 h))
  else ((gI 9 4 x0 h).bind fun v4 =>
  if (x2 &&& (v4 ^^^ (-1 : Int32))) = 0 then
  (if (x4 &&& (x2 ^^^ (-1 : Int32))) = 0 then
  ((mX9_node x0 x2 x4 h).bind fun v5 =>
  (gR 9 3 x0 h).bind fun v7 =>
  (mX9_winner x0 x2 v5 x3 h).bind fun v8 =>
  (mX11_put v7 v5 v8 h).bind fun h11 =>
  mX9_playOut_b72 x0 x1 x2 x3 x4 h11)
  else (mX9_playOut_b72 x0 x1 x2 x3 x4 h))
  else (xt (mX9_playOut_b78 x0 x1 x2 h)))
noncomputable def mX9_playOut_l21 (x0 : Nat) (x1 : Int32) (x2 : Int32) (x3 : Int32) (x4 : Int32) (h : Hp) : Option ((Int32 × Hp) ⊕ Hp) :=
  lp (fun s : (Int32 × Hp) => mX9_playOut_l21f x0 x1 x2 x3 s.1 s.2) (x4, h)
noncomputable def mX9_playOut_l5f (x0 : Nat) (x1 : Int32) (x2 : Int32) (h : Hp) : Option ((Int32 × Hp) ⊕ Hp) :=
  if x2 < 0 then
  (xt (some h))
  else ((mJ6_bitCount_0f7a4 x2).bind fun v2 =>
  mX9_playOut_l21 x0 x1 x2 ((x1 + v2) &&& (1 : Int32)) x2 h)
noncomputable def mX9_playOut_l5 (x0 : Nat) (x1 : Int32) (x2 : Int32) (h : Hp) : Option Hp :=
  lp (fun s : (Int32 × Hp) => mX9_playOut_l5f x0 x1 s.1 s.2) (x2, h)
noncomputable def mX9_playOut (x0 : Nat) (x1 : Int32) (h : Hp) : Option Hp :=
  if (hpS h x0).1 = 10 then
  (gI 9 4 x0 h).bind fun v1 =>
  mX9_playOut_l5 x0 x1 v1 h
  else none

noncomputable def mX9_winningTurn (x0 : Nat) (x1 : Int32) (h : Hp) : Option Int32 :=
  if (hpS h x0).1 = 10 then
  (mX9_bestTurn x0 (0 : Int32) (0 : Int32) ((1 : Int32) - x1) h).bind fun v1 =>
  some v1
  else none

noncomputable def mX9_isProof_b88 (x0 : Nat) (x1 : Int32) (x2 : Int32) (x3 : Int32) (x4 : Int32) (x5 : Int32) (h : Hp) : Option (Int32 ⊕ Int32) :=
  some (.inl (x5 + (1 : Int32)))
noncomputable def mX9_isProof_b47 (x0 : Nat) (x1 : Int32) (x2 : Int32) (x3 : Int32) (x4 : Int32) (x5 : Int32) (t0 : Int32) (h : Hp) : Option (Int32 ⊕ Int32) :=
  (mX11_has x1 x5).bind fun v8 =>
  if v8 = 0 then
  (mX9_isProof_b88 x0 x1 x2 x3 x4 x5 h)
  else ((gR 9 2 x0 h).bind fun v10 =>
  (gR 9 0 x0 h).bind fun v11 =>
  (mX11_at v11 ((1 : Int32) <<< (x5 &&& 31)) h).bind fun v12 =>
  (mX11_at v10 (x4 - (t0 * v12)) h).bind fun v14 =>
  if v14 = x3 then
  (xt (some (0 : Int32)))
  else (mX9_isProof_b88 x0 x1 x2 x3 x4 x5 h))
noncomputable def mX9_isProof_l26f (x0 : Nat) (x1 : Int32) (x2 : Int32) (x3 : Int32) (x4 : Int32) (h : Hp) (x5 : Int32) : Option (Int32 ⊕ Int32) :=
  if x5 < (8 : Int32) then
  ((mX11_has x2 x5).bind fun v6 =>
  if v6 = 0 then
  (mX9_isProof_b47 x0 x1 x2 x3 x4 x5 (1 : Int32) h)
  else (mX9_isProof_b47 x0 x1 x2 x3 x4 x5 (2 : Int32) h))
  else (xt (some (1 : Int32)))
noncomputable def mX9_isProof_l26 (x0 : Nat) (x1 : Int32) (x2 : Int32) (x3 : Int32) (x4 : Int32) (x5 : Int32) (h : Hp) : Option Int32 :=
  lp (fun s : Int32 => mX9_isProof_l26f x0 x1 x2 x3 x4 h s) x5
noncomputable def mX9_isProof (x0 : Nat) (x1 : Int32) (x2 : Int32) (x3 : Int32) (h : Hp) : Option Int32 :=
  if (hpS h x0).1 = 10 then
  (mX9_node x0 x1 x2 h).bind fun v1 =>
  (gR 9 2 x0 h).bind fun v3 =>
  (mX11_at v3 v1 h).bind fun v4 =>
  if v4 = x3 then
  (mX9_isProof_l26 x0 x1 x2 x3 v1 (0 : Int32) h)
  else (some (0 : Int32))
  else none

noncomputable def mX10_copy_l2f (x0 : Nat) (x1 : Nat) (x2 : Int32) (h : Hp) : Option ((Int32 × Hp) ⊕ Hp) :=
  (gR 10 0 x0 h).bind fun v1 =>
  (aLen v1 h).bind fun v2 =>
  if x2 < v2 then
  ((gR 10 0 x1 h).bind fun v3 =>
  (aLen v3 h).bind fun v4 =>
  if x2 < v4 then
  ((gR 10 0 x0 h).bind fun v5 =>
  (gR 10 0 x1 h).bind fun v6 =>
  (ldL v6 x2 h).bind fun v7 =>
  (stL v5 x2 v7 h).bind fun h8 =>
  some (.inl ((x2 + (1 : Int32)), h8)))
  else (xt (some h)))
  else (xt (some h))
noncomputable def mX10_copy_l2 (x0 : Nat) (x1 : Nat) (x2 : Int32) (h : Hp) : Option Hp :=
  lp (fun s : (Int32 × Hp) => mX10_copy_l2f x0 x1 s.1 s.2) (x2, h)
noncomputable def mX10_copy (x0 : Nat) (x1 : Nat) (h : Hp) : Option Hp :=
  if (hpS h x0).1 = 11 then
  mX10_copy_l2 x0 x1 (0 : Int32) h
  else none

noncomputable def mX10_howIn (x0 : Nat) (x1 : Nat) (h : Hp) : Option Int32 :=
  if (hpS h x0).1 = 11 then
  (mX10_within x0 x1 h).bind fun v1 =>
  if v1 = 0 then
  ((mX10_meets x0 x1 h).bind fun v3 =>
  if v3 = 0 then
  (some (0 : Int32))
  else (some (2 : Int32)))
  else (some (1 : Int32))
  else none

noncomputable def mX11_init (x0 : Nat) (h : Hp) : Option Hp :=
  b2 (newO 7 2 h) fun v2 h1 =>
  (mX7_init v2 h1).bind fun h4 =>
  (sR 11 0 x0 v2 h4).bind fun h5 =>
  b2 (newO 8 5 h5) fun v7 h6 =>
  (mX8_init v7 h6).bind fun h9 =>
  (sR 11 1 x0 v7 h9).bind fun h10 =>
  b2 (newO 4 7 h10) fun v12 h11 =>
  (mX4_init v12 h11).bind fun h14 =>
  (sR 11 2 x0 v12 h14).bind fun h15 =>
  b2 (newO 1 20 h15) fun v17 h16 =>
  (mX1_init v17 h16).bind fun h19 =>
  (sR 11 3 x0 v17 h19).bind fun h20 =>
  b2 (newO 1 20 h20) fun v22 h21 =>
  (mX1_init v22 h21).bind fun h24 =>
  (sR 11 4 x0 v22 h24).bind fun h25 =>
  b2 (newO 5 15 h25) fun v27 h26 =>
  (mX5_init v27 h26).bind fun h29 =>
  (sR 11 5 x0 v27 h29).bind fun h30 =>
  b2 (newO 5 15 h30) fun v32 h31 =>
  (mX5_init v32 h31).bind fun h34 =>
  (sR 11 6 x0 v32 h34).bind fun h35 =>
  b2 (newO 2 9 h35) fun v37 h36 =>
  (gR 11 1 x0 h36).bind fun v38 =>
  (gR 11 2 x0 h36).bind fun v39 =>
  (gR 11 4 x0 h36).bind fun v40 =>
  (gR 11 6 x0 h36).bind fun v41 =>
  (mX2_init v37 v38 v39 v40 v41 h36).bind fun h43 =>
  (sR 11 7 x0 v37 h43).bind fun h44 =>
  b2 (newO 0 5 h44) fun v46 h45 =>
  (mX0_init v46 h45).bind fun h48 =>
  (sR 11 8 x0 v46 h48).bind fun h49 =>
  b2 (newO 10 1 h49) fun v51 h50 =>
  (mX10_init v51 h50).bind fun h53 =>
  (sR 11 9 x0 v51 h53).bind fun h54 =>
  b2 (newO 10 1 h54) fun v56 h55 =>
  (mX10_init v56 h55).bind fun h58 =>
  (sR 11 10 x0 v56 h58).bind fun h59 =>
  b2 (newO 10 1 h59) fun v61 h60 =>
  (mX10_init v61 h60).bind fun h63 =>
  (sR 11 11 x0 v61 h63).bind fun h64 =>
  b2 (newO 9 5 h64) fun v66 h65 =>
  (mX9_init v66 h65).bind fun h68 =>
  (sR 11 12 x0 v66 h68).bind fun h69 =>
  b2 (newO 3 5 h69) fun v71 h70 =>
  (mX3_init v71 h70).bind fun _ =>
  (sR 11 13 x0 v71 h70).bind fun h74 =>
  b2 (newO 6 6 h74) fun v76 h75 =>
  (mX6_init v76 h75).bind fun h78 =>
  (sR 11 14 x0 v76 h78).bind fun h79 =>
  b2 (newA 50 8 h79) fun v81 h80 =>
  (sR 11 15 x0 v81 h80).bind fun h82 =>
  (gR 11 3 x0 h82).bind fun v83 =>
  (mX1_clear v83 h82).bind fun h85 =>
  (gR 11 3 x0 h85).bind fun v86 =>
  (gR 11 2 x0 h85).bind fun v87 =>
  (mX1_finish v86 v87 h85).bind fun h89 =>
  some h89

noncomputable def mX11_sign (x0 : Nat) (x1 : Int32) (h : Hp) : Option (Int32 × Hp) :=
  if (hpS h x0).1 = 12 then
  (gR 11 0 x0 h).bind fun v1 =>
  b2 (mX7_take v1 x1 h) fun v2 h3 =>
  if v2 = 0 then
  (some ((-1 : Int32), h3))
  else ((gR 11 0 x0 h3).bind fun v4 =>
  (gI 7 1 v4 h3).bind fun v5 =>
  some (v5, h3))
  else none

noncomputable def mX11_end (x0 : Nat) (x1 : Int32) (h : Hp) : Option (Int32 × Hp) :=
  if (hpS h x0).1 = 12 then
  (gR 11 0 x0 h).bind fun v1 =>
  b2 (mX7_cut v1 x1 h) fun v2 h3 =>
  (z01 v2).bind fun v => some (v, h3)
  else none

noncomputable def mX11_suit (x0 : Nat) (h : Hp) : Option (Int32 × Hp) :=
  if (hpS h x0).1 = 12 then
  (gR 11 1 x0 h).bind fun v1 =>
  (gR 11 0 x0 h).bind fun v2 =>
  (mX8_split v1 v2 h).bind fun h4 =>
  (gR 11 0 x0 h4).bind fun v5 =>
  (sI 7 1 v5 (0 : Int32) h4).bind fun h6 =>
  (gR 11 7 x0 h6).bind fun v7 =>
  (gR 11 4 x0 h6).bind fun v8 =>
  (gR 11 6 x0 h6).bind fun v9 =>
  b2 (mX2_readSuit v7 v8 v9 h6) fun v10 h11 =>
  if v10 = 0 then
  (some ((-1 : Int32), h11))
  else ((gR 11 4 x0 h11).bind fun v12 =>
  (gR 11 2 x0 h11).bind fun v13 =>
  (mX1_finish v12 v13 h11).bind fun h15 =>
  (gR 11 4 x0 h15).bind fun v16 =>
  (gR 11 3 x0 h15).bind fun v17 =>
  (sR 11 4 x0 v17 h15).bind fun h18 =>
  (sR 11 3 x0 v16 h18).bind fun h19 =>
  (gR 11 6 x0 h19).bind fun v20 =>
  (gR 11 5 x0 h19).bind fun v21 =>
  (sR 11 6 x0 v21 h19).bind fun h22 =>
  (sR 11 5 x0 v20 h22).bind fun h23 =>
  (gR 11 8 x0 h23).bind fun v24 =>
  (mX0_forget v24 h23).bind fun h26 =>
  (sL 11 17 x0 (0 : Int64) h26).bind fun h27 =>
  (gR 11 3 x0 h27).bind fun v28 =>
  (gI 1 0 v28 h27).bind fun v29 =>
  some (v29, h27))
  else none

noncomputable def mX11_fault (x0 : Nat) (x1 : Int32) (h : Hp) : Option Int32 :=
  if (hpS h x0).1 = 12 then
  lsw x1 [(0, (gR 11 7 x0 h).bind fun v1 =>
  (gI 2 7 v1 h).bind fun v2 =>
  some v2),
  (1, (gR 11 7 x0 h).bind fun v3 =>
  (gI 2 7 v3 h).bind fun v4 =>
  if v4 = 0 then
  (some (-1 : Int32))
  else ((gR 11 7 x0 h).bind fun v5 =>
  (gI 2 8 v5 h).bind fun v6 =>
  some v6))] (some (-1 : Int32))
  else none

noncomputable def mX11_isFact (x0 : Nat) (x1 : Int32) (h : Hp) : Option Int32 :=
  if (hpS h x0).1 = 12 then
  if x1 < 0 then
  (some (0 : Int32))
  else ((gR 11 3 x0 h).bind fun v1 =>
  (gI 1 1 v1 h).bind fun v2 =>
  if x1 < v2 then
  (some (1 : Int32))
  else (some (0 : Int32)))
  else none

noncomputable def mX11_fact (x0 : Nat) (x1 : Int32) (x2 : Int32) (h : Hp) : Option Int32 :=
  if (hpS h x0).1 = 12 then
  (mX11_isFact x0 x1 h).bind fun v1 =>
  if v1 = 0 then
  (some (-1 : Int32))
  else (tsw x2 (0) [(gR 11 3 x0 h).bind fun v3 =>
  (gR 1 6 v3 h).bind fun v4 =>
  (mX11_at v4 x1 h).bind fun v5 =>
  some v5,
  (gR 11 5 x0 h).bind fun v7 =>
  (mX5_howIs v7 x1 h).bind fun v8 =>
  some v8,
  (gR 11 5 x0 h).bind fun v10 =>
  (mX5_known v10 h).bind fun v11 =>
  (mX11_has v11 x1).bind fun v13 =>
  if v13 = 0 then
  (some (2 : Int32))
  else ((gR 11 5 x0 h).bind fun v15 =>
  (gI 5 8 v15 h).bind fun v16 =>
  (mX11_has v16 x1).bind fun v17 =>
  if v17 = 0 then
  (some (0 : Int32))
  else (some (1 : Int32))),
  (gR 11 5 x0 h).bind fun v19 =>
  (mX5_sayers v19 x1 h).bind fun v20 =>
  some v20] (some (-1 : Int32)))
  else none

noncomputable def mX11_isCount (x0 : Nat) (x1 : Int32) (h : Hp) : Option Int32 :=
  if (hpS h x0).1 = 12 then
  if x1 < 0 then
  (some (0 : Int32))
  else ((gR 11 5 x0 h).bind fun v1 =>
  (gI 5 2 v1 h).bind fun v2 =>
  if x1 < v2 then
  (some (1 : Int32))
  else (some (0 : Int32)))
  else none

noncomputable def mX11_leastBack_b97 (x0 : Nat) (x1 : Int32) (x2 : Int32) (x3 : Int32) (x4 : Int32) (x5 : Int32) (h : Hp) : Option ((Int32 × Int32) ⊕ Int32) :=
  some (.inl (x4, (x5 + (1 : Int32))))
noncomputable def mX11_leastBack_l18f (x0 : Nat) (x1 : Int32) (x2 : Int32) (x3 : Int32) (h : Hp) (x4 : Int32) (x5 : Int32) : Option ((Int32 × Int32) ⊕ Int32) :=
  if x5 < x1 then
  (if x5 < (8 : Int32) then
  (if x2 = 0 then
  (xt (some x4))
  else ((gR 11 5 x0 h).bind fun v5 =>
  (gR 5 13 v5 h).bind fun v6 =>
  (mX11_at v6 x5 h).bind fun v7 =>
  (mJ6_bitCount_0f7a4 (v7 &&& x2)).bind fun v9 =>
  (gR 11 5 x0 h).bind fun v11 =>
  (gR 5 12 v11 h).bind fun v12 =>
  (mX11_at v12 x5 h).bind fun v13 =>
  if v13 < x3 then
  ((mJ6_bitCount_0f7a4 x2).bind fun v15 =>
  if ((2 : Int32) * v9) < v15 then
  (mX11_leastBack_b97 x0 x1 x2 x3 x4 x5 h)
  else ((gR 11 15 x0 h).bind fun v17 =>
  (mX11_at v17 x5 h).bind fun v18 =>
  mX11_leastBack_b97 x0 x1 x2 x3 (mmin x4 v18) x5 h))
  else (mX11_leastBack_b97 x0 x1 x2 x3 x4 x5 h)))
  else (xt (some x4)))
  else (xt (some x4))
noncomputable def mX11_leastBack_l18 (x0 : Nat) (x1 : Int32) (x2 : Int32) (x3 : Int32) (x4 : Int32) (x5 : Int32) (h : Hp) : Option Int32 :=
  lp (fun s : (Int32 × Int32) => mX11_leastBack_l18f x0 x1 x2 x3 h s.1 s.2) (x4, x5)
noncomputable def mX11_leastBack (x0 : Nat) (x1 : Int32) (x2 : Int32) (h : Hp) : Option Int32 :=
  if (hpS h x0).1 = 12 then
  (gR 11 5 x0 h).bind fun v1 =>
  (gR 5 12 v1 h).bind fun v2 =>
  (mX11_at v2 x1 h).bind fun v3 =>
  mX11_leastBack_l18 x0 x1 x2 v3 v3 (0 : Int32) h
  else none

noncomputable def mX11_workOutBacks_l2f (x0 : Nat) (x1 : Int32) (x2 : Int32) (h : Hp) : Option ((Int32 × Hp) ⊕ Hp) :=
  if x2 < x1 then
  (if x2 < (8 : Int32) then
  ((gR 11 15 x0 h).bind fun v1 =>
  (gR 11 5 x0 h).bind fun v2 =>
  (gR 5 13 v2 h).bind fun v3 =>
  (mX11_at v3 x2 h).bind fun v4 =>
  (mX11_leastBack x0 x2 v4 h).bind fun v6 =>
  (mX11_put v1 x2 v6 h).bind fun h9 =>
  some (.inl ((x2 + (1 : Int32)), h9)))
  else (xt (some h)))
  else (xt (some h))
noncomputable def mX11_workOutBacks_l2 (x0 : Nat) (x1 : Int32) (x2 : Int32) (h : Hp) : Option Hp :=
  lp (fun s : (Int32 × Hp) => mX11_workOutBacks_l2f x0 x1 s.1 s.2) (x2, h)
noncomputable def mX11_workOutBacks (x0 : Nat) (x1 : Int32) (h : Hp) : Option Hp :=
  if (hpS h x0).1 = 12 then
  mX11_workOutBacks_l2 x0 x1 (0 : Int32) h
  else none

noncomputable def mX11_age (x0 : Nat) (x1 : Int32) (h : Hp) : Option (Int32 × Hp) :=
  if (hpS h x0).1 = 12 then
  (mX11_workOutBacks x0 x1 h).bind fun h2 =>
  (gR 11 5 x0 h2).bind fun v3 =>
  (gR 5 11 v3 h2).bind fun v4 =>
  (mX11_at v4 x1 h2).bind fun v5 =>
  (gR 11 5 x0 h2).bind fun v7 =>
  (gR 5 13 v7 h2).bind fun v8 =>
  (mX11_at v8 x1 h2).bind fun v9 =>
  (mX11_leastBack x0 x1 v9 h2).bind fun v11 =>
  some ((v5 + v11), h2)
  else none

noncomputable def mX11_kind (x0 : Nat) (x1 : Int32) (h : Hp) : Option Int32 :=
  if (hpS h x0).1 = 12 then
  (gR 11 5 x0 h).bind fun v1 =>
  (gR 5 9 v1 h).bind fun v2 =>
  (mX11_at v2 x1 h).bind fun v3 =>
  some v3
  else none

noncomputable def mX11_remember (x0 : Nat) (h : Hp) : Option Hp :=
  if (hpS h x0).1 = 12 then
  (gR 11 9 x0 h).bind fun v1 =>
  (gR 11 3 x0 h).bind fun v2 =>
  (gR 1 17 v2 h).bind fun v3 =>
  (mX10_copy v1 v3 h).bind fun h5 =>
  (gR 11 9 x0 h5).bind fun v6 =>
  (gR 11 5 x0 h5).bind fun v7 =>
  (mX5_known v7 h5).bind fun v8 =>
  (gR 11 5 x0 h5).bind fun v10 =>
  (gI 5 8 v10 h5).bind fun v11 =>
  (mX10_agree v6 v8 v11 h5).bind fun h13 =>
  some h13
  else none

noncomputable def mX11_allege (x0 : Nat) (x1 : Int32) (h : Hp) : Option Hp :=
  if (hpS h x0).1 = 12 then
  (gR 11 10 x0 h).bind fun v1 =>
  (gR 11 3 x0 h).bind fun v2 =>
  (gR 1 17 v2 h).bind fun v3 =>
  (mX10_copy v1 v3 h).bind fun h5 =>
  (gR 11 10 x0 h5).bind fun v6 =>
  (gR 11 5 x0 h5).bind fun v7 =>
  (gR 5 13 v7 h5).bind fun v8 =>
  (mX11_at v8 x1 h5).bind fun v9 =>
  (gR 11 5 x0 h5).bind fun v11 =>
  (gR 5 14 v11 h5).bind fun v12 =>
  (mX11_at v12 x1 h5).bind fun v13 =>
  (mX10_agree v6 v9 v13 h5).bind fun h16 =>
  some h16
  else none

noncomputable def mX11_failing (x0 : Nat) (x1 : Int32) (h : Hp) : Option (Int32 × Hp) :=
  if (hpS h x0).1 = 12 then
  (gR 11 5 x0 h).bind fun v1 =>
  (gI 5 3 v1 h).bind fun v2 =>
  (mX11_has v2 x1).bind fun v3 =>
  if v3 = 0 then
  ((mX11_allege x0 x1 h).bind fun h6 =>
  (gR 11 10 x0 h6).bind fun v7 =>
  (mX10_isEmpty v7 h6).bind fun v8 =>
  if v8 = 0 then
  ((mX11_kind x0 x1 h6).bind fun v10 =>
  (gR 11 3 x0 h6).bind fun v12 =>
  (gR 11 10 x0 h6).bind fun v13 =>
  (mX1_needsSure v12 v10 v13 h6).bind fun v14 =>
  if v14 = 0 then
  (some ((3 : Int32), h6))
  else ((gR 11 3 x0 h6).bind fun v16 =>
  (gR 11 9 x0 h6).bind fun v17 =>
  (mX1_needsMet v16 v10 v17 h6).bind fun v18 =>
  if v18 = 0 then
  (some ((4 : Int32), h6))
  else ((gR 11 3 x0 h6).bind fun v20 =>
  (gR 11 10 x0 h6).bind fun v21 =>
  (mX1_barred v20 v10 v21 h6).bind fun v22 =>
  if v22 = 0 then
  ((gR 11 3 x0 h6).bind fun v24 =>
  (gR 11 9 x0 h6).bind fun v25 =>
  (mX1_barred v24 v10 v25 h6).bind fun v26 =>
  if v26 = 0 then
  (b2 (mX11_age x0 x1 h6) fun v28 h29 =>
  (gR 11 3 x0 h29).bind fun v30 =>
  (gI 1 5 v30 h29).bind fun v31 =>
  if v31 < v28 then
  (some ((6 : Int32), h29))
  else (some ((0 : Int32), h29)))
  else (some ((5 : Int32), h6)))
  else (some ((5 : Int32), h6)))))
  else (some ((2 : Int32), h6)))
  else (some ((1 : Int32), h))
  else none

noncomputable def mX11_of (x0 : Nat) (x1 : Int32) (x2 : Int32) (h : Hp) : Option (Int32 × Hp) :=
  if (hpS h x0).1 = 12 then
  (mX11_isCount x0 x1 h).bind fun v1 =>
  if v1 = 0 then
  (some ((-1 : Int32), h))
  else (tsw x2 (0) [(gR 11 5 x0 h).bind fun v3 =>
  (gR 5 10 v3 h).bind fun v4 =>
  (mX11_at v4 x1 h).bind fun v5 =>
  some (v5, h),
  (gR 11 5 x0 h).bind fun v7 =>
  (gR 5 11 v7 h).bind fun v8 =>
  (mX11_at v8 x1 h).bind fun v9 =>
  some (v9, h),
  (gR 11 5 x0 h).bind fun v11 =>
  (gR 5 12 v11 h).bind fun v12 =>
  (mX11_at v12 x1 h).bind fun v13 =>
  some (v13, h),
  b2 (mX11_age x0 x1 h) fun v15 h16 =>
  (gR 11 5 x0 h16).bind fun v17 =>
  (gR 5 11 v17 h16).bind fun v18 =>
  (mX11_at v18 x1 h16).bind fun v19 =>
  some ((v15 - v19), h16),
  b2 (mX11_age x0 x1 h) fun v21 h22 =>
  some (v21, h22),
  (gR 11 3 x0 h).bind fun v23 =>
  (gR 1 8 v23 h).bind fun v24 =>
  (mX11_kind x0 x1 h).bind fun v25 =>
  (mX11_at v24 v25 h).bind fun v27 =>
  some (v27, h),
  (gR 11 3 x0 h).bind fun v29 =>
  (mX11_kind x0 x1 h).bind fun v30 =>
  (mX1_pleasOf v29 v30 h).bind fun v32 =>
  some (v32, h),
  (gR 11 5 x0 h).bind fun v34 =>
  (gR 5 13 v34 h).bind fun v35 =>
  (mX11_at v35 x1 h).bind fun v36 =>
  some (v36, h),
  (gR 11 5 x0 h).bind fun v38 =>
  (gR 5 14 v38 h).bind fun v39 =>
  (mX11_at v39 x1 h).bind fun v40 =>
  some (v40, h),
  (mX11_remember x0 h).bind fun h43 =>
  b2 (mX11_failing x0 x1 h43) fun v44 h45 =>
  some (v44, h45),
  (gR 11 3 x0 h).bind fun v46 =>
  (gR 1 11 v46 h).bind fun v47 =>
  (mX11_kind x0 x1 h).bind fun v48 =>
  (mX11_at v47 v48 h).bind fun v50 =>
  some (v50, h)] (some ((-1 : Int32), h)))
  else none

noncomputable def mX11_shown (x0 : Nat) (x1 : Int32) (x2 : Int32) (x3 : Int32) (h : Hp) : Option (Int32 × Hp) :=
  if (hpS h x0).1 = 12 then
  tsw x3 (0) [(gR 11 2 x0 h).bind fun v1 =>
  (gR 11 3 x0 h).bind fun v2 =>
  (gR 11 5 x0 h).bind fun v3 =>
  (gR 5 13 v3 h).bind fun v4 =>
  (mX11_at v4 x1 h).bind fun v5 =>
  (gR 11 5 x0 h).bind fun v7 =>
  (gR 5 14 v7 h).bind fun v8 =>
  (mX11_at v8 x1 h).bind fun v9 =>
  b2 (mX4_glance v1 v2 x2 v5 v9 h) fun v11 h12 =>
  some (v11, h12),
  (mX11_allege x0 x1 h).bind fun h14 =>
  (gR 11 10 x0 h14).bind fun v15 =>
  (gR 11 3 x0 h14).bind fun v16 =>
  (mX1_table v16 x2 h14).bind fun v17 =>
  (mX10_within v15 v17 h14).bind fun v19 =>
  if v19 = 0 then
  (some ((0 : Int32), h14))
  else (some ((1 : Int32), h14)),
  (mX11_remember x0 h).bind fun h22 =>
  (gR 11 9 x0 h22).bind fun v23 =>
  (gR 11 3 x0 h22).bind fun v24 =>
  (mX1_table v24 x2 h22).bind fun v25 =>
  (mX10_howIn v23 v25 h22).bind fun v27 =>
  some (v27, h22)] (some ((-1 : Int32), h))
  else none

noncomputable def mX11_element (x0 : Nat) (x1 : Int32) (x2 : Int32) (x3 : Int32) (h : Hp) : Option (Int32 × Hp) :=
  if (hpS h x0).1 = 12 then
  (mX11_isCount x0 x1 h).bind fun v1 =>
  if v1 = 0 then
  (some ((-1 : Int32), h))
  else (if x2 < 0 then
  (some ((-1 : Int32), h))
  else ((gR 11 3 x0 h).bind fun v3 =>
  (gR 1 8 v3 h).bind fun v4 =>
  (mX11_kind x0 x1 h).bind fun v5 =>
  (mX11_at v4 v5 h).bind fun v7 =>
  if x2 < v7 then
  ((mX11_kind x0 x1 h).bind fun v9 =>
  (mX11_needSlot v9 x2).bind fun v11 =>
  b2 (mX11_shown x0 x1 v11 x3 h) fun v13 h14 =>
  some (v13, h14))
  else (some ((-1 : Int32), h))))
  else none

noncomputable def mX11_leaves_b22 (x0 : Nat) (t0 : Nat) (t1 : Int32) (t2 : Int32) (h : Hp) : Option (Int32 × Hp) :=
  (mX10_agree t0 t1 t2 h).bind fun h5 =>
  (gR 11 9 x0 h5).bind fun v6 =>
  (mX10_isEmpty v6 h5).bind fun v7 =>
  if v7 = 0 then
  (some ((1 : Int32), h5))
  else (some ((0 : Int32), h5))
noncomputable def mX11_leaves (x0 : Nat) (x1 : Int32) (x2 : Int32) (h : Hp) : Option (Int32 × Hp) :=
  if (hpS h x0).1 = 12 then
  (mX11_remember x0 h).bind fun h2 =>
  (gR 11 9 x0 h2).bind fun v3 =>
  if x2 = 0 then
  (mX11_leaves_b22 x0 v3 ((1 : Int32) <<< (x1 &&& 31)) (0 : Int32) h2)
  else (mX11_leaves_b22 x0 v3 ((1 : Int32) <<< (x1 &&& 31)) ((1 : Int32) <<< (x1 &&& 31)) h2)
  else none

noncomputable def mX11_answer_b121 (x0 : Nat) (t0 : Nat) (t1 : Int32) (t2 : Int32) (t3 : Int32) (h : Hp) : Option (Int32 × Hp) :=
  (mX5_become t0 t1 t2 t3 h).bind fun h14 =>
  (gR 11 5 x0 h14).bind fun v15 =>
  (mX5_answered v15 h14).bind fun v16 =>
  some (v16, h14)
noncomputable def mX11_answer_b94 (x0 : Nat) (x1 : Int32) (x2 : Int32) (x3 : Int32) (h : Hp) : Option (Int32 × Hp) :=
  (gR 11 8 x0 h).bind fun v8 =>
  (gR 11 5 x0 h).bind fun v9 =>
  (mX0_note v8 v9 h).bind fun h11 =>
  (gR 11 5 x0 h11).bind fun v12 =>
  if x2 = (1 : Int32) then
  (mX11_answer_b121 x0 v12 x1 x3 (1 : Int32) h11)
  else (mX11_answer_b121 x0 v12 x1 x3 (0 : Int32) h11)
noncomputable def mX11_answer_b85 (x0 : Nat) (x1 : Int32) (x2 : Int32) (x3 : Int32) (t0 : Nat) (t1 : Int32) (t2 : Int32) (h : Hp) : Option (Int32 × Hp) :=
  b2 (mX11_leaves t0 t1 t2 h) fun v18 h19 =>
  if v18 = 0 then
  (some ((-4 : Int32), h19))
  else (mX11_answer_b94 x0 x1 x2 x3 h19)
noncomputable def mX11_answer_b42 (x0 : Nat) (x1 : Int32) (x2 : Int32) (t0 : Int32) (h : Hp) : Option (Int32 × Hp) :=
  (gR 11 5 x0 h).bind fun v5 =>
  (mX5_howIs v5 x1 h).bind fun v6 =>
  if v6 = (1 : Int32) then
  (some ((-3 : Int32), h))
  else (if v6 = t0 then
  (some ((-3 : Int32), h))
  else (if t0 = (1 : Int32) then
  (if x2 = (1 : Int32) then
  (mX11_answer_b85 x0 x1 x2 t0 x0 x1 (1 : Int32) h)
  else (mX11_answer_b85 x0 x1 x2 t0 x0 x1 (0 : Int32) h))
  else (mX11_answer_b94 x0 x1 x2 t0 h)))
noncomputable def mX11_answer (x0 : Nat) (x1 : Int32) (x2 : Int32) (h : Hp) : Option (Int32 × Hp) :=
  if (hpS h x0).1 = 12 then
  (mX11_isFact x0 x1 h).bind fun v1 =>
  if v1 = 0 then
  (some ((-1 : Int32), h))
  else (if x2 < 0 then
  (some ((-1 : Int32), h))
  else (if (3 : Int32) < x2 then
  (some ((-1 : Int32), h))
  else ((gR 11 5 x0 h).bind fun v3 =>
  (gI 5 1 v3 h).bind fun v4 =>
  if v4 = 0 then
  (if x2 < (2 : Int32) then
  (mX11_answer_b42 x0 x1 x2 (1 : Int32) h)
  else (mX11_answer_b42 x0 x1 x2 x2 h))
  else (some ((-2 : Int32), h)))))
  else none

noncomputable def mX11_withdraw (x0 : Nat) (x1 : Int32) (h : Hp) : Option (Int32 × Hp) :=
  if (hpS h x0).1 = 12 then
  (mX11_isFact x0 x1 h).bind fun v1 =>
  if v1 = 0 then
  (some ((-1 : Int32), h))
  else ((gR 11 5 x0 h).bind fun v3 =>
  (gI 5 1 v3 h).bind fun v4 =>
  if v4 = 0 then
  ((gR 11 5 x0 h).bind fun v5 =>
  (mX5_howIs v5 x1 h).bind fun v6 =>
  if v6 = (1 : Int32) then
  ((gR 11 8 x0 h).bind fun v8 =>
  (gR 11 5 x0 h).bind fun v9 =>
  (mX0_note v8 v9 h).bind fun h11 =>
  (gR 11 5 x0 h11).bind fun v12 =>
  (mX5_become v12 x1 (0 : Int32) (0 : Int32) h11).bind fun h14 =>
  (gR 11 5 x0 h14).bind fun v15 =>
  (mX5_answered v15 h14).bind fun v16 =>
  some (v16, h14))
  else (some ((-3 : Int32), h)))
  else (some ((-2 : Int32), h)))
  else none

noncomputable def mX11_bySilence_b54 (x3 : Int32) (x4 : Int32) (t0 : Nat) (t1 : Int32) (t2 : Int32) (h : Hp) : Option (Int32 × Hp) :=
  (mX5_become t0 t1 t2 x3 h).bind fun h14 =>
  if x4 = 0 then
  (some ((0 : Int32), h14))
  else (some ((1 : Int32), h14))
noncomputable def mX11_bySilence (x0 : Nat) (x1 : Int32) (h : Hp) : Option (Int32 × Hp) :=
  if (hpS h x0).1 = 12 then
  (gR 11 5 x0 h).bind fun v1 =>
  (mX5_firstSayer v1 x1 h).bind fun v2 =>
  if v2 < 0 then
  (some ((0 : Int32), h))
  else ((gR 11 5 x0 h).bind fun v4 =>
  (gR 5 14 v4 h).bind fun v5 =>
  (mX11_at v5 v2 h).bind fun v6 =>
  (mX11_has v6 x1).bind fun v8 =>
  b2 (mX11_leaves x0 x1 v8 h) fun v10 h11 =>
  (gR 11 5 x0 h11).bind fun v12 =>
  if v10 = 0 then
  (mX11_bySilence_b54 v8 v10 v12 x1 (3 : Int32) h11)
  else (mX11_bySilence_b54 v8 v10 v12 x1 (1 : Int32) h11))
  else none

noncomputable def mX11_close_b70 (x0 : Nat) (x1 : Int32) (h : Hp) : Option (Int32 × Hp) :=
  (gR 11 5 x0 h).bind fun v9 =>
  (sZ 5 1 v9 (1 : Int32) h).bind fun h10 =>
  some (x1, h10)
noncomputable def mX11_close_b64 (x0 : Nat) (x1 : Int32) (x2 : Int32) (h : Hp) : Option ((Int32 × Int32 × Hp) ⊕ (Int32 × Hp)) :=
  some (.inl (x1, (x2 + (1 : Int32)), h))
noncomputable def mX11_close_l28f (x0 : Nat) (x1 : Int32) (x2 : Int32) (h : Hp) : Option ((Int32 × Int32 × Hp) ⊕ (Int32 × Hp)) :=
  (gR 11 3 x0 h).bind fun v7 =>
  (gI 1 1 v7 h).bind fun v8 =>
  if x2 < v8 then
  (if x2 < (8 : Int32) then
  ((gR 11 5 x0 h).bind fun v11 =>
  (mX5_howIs v11 x2 h).bind fun v12 =>
  if v12 = 0 then
  (b2 (mX11_bySilence x0 x2 h) fun v14 h15 =>
  mX11_close_b64 x0 (x1 + v14) x2 h15)
  else (mX11_close_b64 x0 x1 x2 h))
  else (xt (mX11_close_b70 x0 x1 h)))
  else (xt (mX11_close_b70 x0 x1 h))
noncomputable def mX11_close_l28 (x0 : Nat) (x1 : Int32) (x2 : Int32) (h : Hp) : Option (Int32 × Hp) :=
  lp (fun s : (Int32 × Int32 × Hp) => mX11_close_l28f x0 s.1 s.2.1 s.2.2) (x1, x2, h)
noncomputable def mX11_close (x0 : Nat) (h : Hp) : Option (Int32 × Hp) :=
  if (hpS h x0).1 = 12 then
  (gR 11 5 x0 h).bind fun v1 =>
  (gI 5 1 v1 h).bind fun v2 =>
  if v2 = 0 then
  ((gR 11 8 x0 h).bind fun v3 =>
  (gR 11 5 x0 h).bind fun v4 =>
  (mX0_note v3 v4 h).bind fun h6 =>
  mX11_close_l28 x0 (0 : Int32) (0 : Int32) h6)
  else (some ((-2 : Int32), h))
  else none

noncomputable def mX11_unknown (x0 : Nat) (h : Hp) : Option Int32 :=
  if (hpS h x0).1 = 12 then
  (gR 11 3 x0 h).bind fun v1 =>
  (gI 1 1 v1 h).bind fun v2 =>
  (gR 11 5 x0 h).bind fun v3 =>
  (mX5_known v3 h).bind fun v4 =>
  some ((((1 : Int32) <<< (v2 &&& 31)) - (1 : Int32)) &&& (v4 ^^^ (-1 : Int32)))
  else none

noncomputable def mX11_find (x0 : Nat) (x1 : Int32) (x2 : Int32) (h : Hp) : Option (Int32 × Hp) :=
  if (hpS h x0).1 = 12 then
  (mX11_isFact x0 x1 h).bind fun v1 =>
  if v1 = 0 then
  (some ((-1 : Int32), h))
  else ((gR 11 5 x0 h).bind fun v3 =>
  (gI 5 1 v3 h).bind fun v4 =>
  if v4 = 0 then
  (some ((-2 : Int32), h))
  else ((gR 11 5 x0 h).bind fun v5 =>
  (mX5_known v5 h).bind fun v6 =>
  (mX11_has v6 x1).bind fun v8 =>
  if v8 = 0 then
  (b2 (mX11_leaves x0 x1 x2 h) fun v10 h11 =>
  if v10 = 0 then
  (some ((-4 : Int32), h11))
  else ((gR 11 8 x0 h11).bind fun v12 =>
  (gR 11 5 x0 h11).bind fun v13 =>
  (mX0_note v12 v13 h11).bind fun h15 =>
  (gR 11 5 x0 h15).bind fun v16 =>
  (mX5_become v16 x1 (4 : Int32) x2 h15).bind fun h18 =>
  (mX11_unknown x0 h18).bind fun v19 =>
  (mJ6_bitCount_0f7a4 v19).bind fun v21 =>
  some (v21, h18)))
  else (some ((-3 : Int32), h))))
  else none

noncomputable def mX11_say_b160 (x0 : Nat) (x1 : Int32) (x2 : Int32) (x3 : Int32) (h : Hp) : Option (Int32 × Hp) :=
  (gR 11 8 x0 h).bind fun v21 =>
  (gR 11 5 x0 h).bind fun v22 =>
  (mX0_note v21 v22 h).bind fun h24 =>
  (gR 11 5 x0 h24).bind fun v25 =>
  (mX5_tell v25 x1 x2 x3 h24).bind fun h27 =>
  (gR 11 5 x0 h27).bind fun v28 =>
  (gR 5 13 v28 h27).bind fun v29 =>
  (mX11_at v29 x1 h27).bind fun v30 =>
  (mJ6_bitCount_0f7a4 v30).bind fun v32 =>
  some (v32, h27)
noncomputable def mX11_say_b154 (x0 : Nat) (x1 : Int32) (x2 : Int32) (x3 : Int32) (t0 : Int32) (t1 : Int32) (h : Hp) : Option (Int32 × Hp) :=
  if t0 = t1 then
  (mX11_say_b160 x0 x1 x2 x3 h)
  else (some ((-4 : Int32), h))
noncomputable def mX11_say_b114 (x0 : Nat) (x1 : Int32) (x2 : Int32) (x3 : Int32) (h : Hp) : Option (Int32 × Hp) :=
  if x3 < (2 : Int32) then
  ((gR 11 5 x0 h).bind fun v34 =>
  (mX5_known v34 h).bind fun v35 =>
  (mX11_has v35 x2).bind fun v37 =>
  if v37 = 0 then
  (mX11_say_b160 x0 x1 x2 x3 h)
  else ((gR 11 5 x0 h).bind fun v39 =>
  (gI 5 8 v39 h).bind fun v40 =>
  (mX11_has v40 x2).bind fun v41 =>
  if x3 = (1 : Int32) then
  (mX11_say_b154 x0 x1 x2 x3 v41 (1 : Int32) h)
  else (mX11_say_b154 x0 x1 x2 x3 v41 (0 : Int32) h)))
  else (mX11_say_b160 x0 x1 x2 x3 h)
noncomputable def mX11_say_b108 (x0 : Nat) (x1 : Int32) (x2 : Int32) (x3 : Int32) (t0 : Int32) (t1 : Int32) (h : Hp) : Option (Int32 × Hp) :=
  if t0 = t1 then
  (some ((-3 : Int32), h))
  else (mX11_say_b114 x0 x1 x2 x3 h)
noncomputable def mX11_say (x0 : Nat) (x1 : Int32) (x2 : Int32) (x3 : Int32) (h : Hp) : Option (Int32 × Hp) :=
  if (hpS h x0).1 = 12 then
  (mX11_isCount x0 x1 h).bind fun v1 =>
  if v1 = 0 then
  (some ((-1 : Int32), h))
  else ((mX11_isFact x0 x2 h).bind fun v3 =>
  if v3 = 0 then
  (some ((-1 : Int32), h))
  else (if x3 < 0 then
  (some ((-1 : Int32), h))
  else (if (2 : Int32) < x3 then
  (some ((-1 : Int32), h))
  else ((gR 11 5 x0 h).bind fun v5 =>
  (gI 5 3 v5 h).bind fun v6 =>
  (mX11_has v6 x1).bind fun v7 =>
  if v7 = 0 then
  ((gR 11 5 x0 h).bind fun v9 =>
  (gR 5 13 v9 h).bind fun v10 =>
  (mX11_at v10 x1 h).bind fun v11 =>
  (mX11_has v11 x2).bind fun v13 =>
  (gR 11 5 x0 h).bind fun v15 =>
  (gR 5 14 v15 h).bind fun v16 =>
  (mX11_at v16 x1 h).bind fun v17 =>
  (mX11_has v17 x2).bind fun v19 =>
  if x3 = (2 : Int32) then
  (if v13 = 0 then
  (some ((-3 : Int32), h))
  else (mX11_say_b114 x0 x1 x2 x3 h))
  else (if v13 = 0 then
  (mX11_say_b114 x0 x1 x2 x3 h)
  else (if x3 = (1 : Int32) then
  (mX11_say_b108 x0 x1 x2 x3 v19 (1 : Int32) h)
  else (mX11_say_b108 x0 x1 x2 x3 v19 (0 : Int32) h))))
  else (some ((-2 : Int32), h))))))
  else none

noncomputable def mX11_add (x0 : Nat) (x1 : Int32) (x2 : Int32) (x3 : Int32) (h : Hp) : Option (Int32 × Hp) :=
  if (hpS h x0).1 = 12 then
  (mX11_isCount x0 x1 h).bind fun v1 =>
  if v1 = 0 then
  (some ((-1 : Int32), h))
  else (if x2 < 0 then
  (some ((-1 : Int32), h))
  else (if (999 : Int32) < x2 then
  (some ((-1 : Int32), h))
  else (if x3 < 0 then
  (some ((-1 : Int32), h))
  else (if (999 : Int32) < x3 then
  (some ((-1 : Int32), h))
  else ((gR 11 5 x0 h).bind fun v3 =>
  (gI 5 2 v3 h).bind fun v4 =>
  if v4 < (8 : Int32) then
  ((gR 11 8 x0 h).bind fun v5 =>
  (gR 11 5 x0 h).bind fun v6 =>
  (mX0_note v5 v6 h).bind fun h8 =>
  (gR 11 5 x0 h8).bind fun v9 =>
  (mX11_kind x0 x1 h8).bind fun v10 =>
  b2 (mX5_file v9 v10 x2 x3 h8) fun v12 h13 =>
  some (v12, h13))
  else (some ((-2 : Int32), h)))))))
  else none

noncomputable def mX11_strike (x0 : Nat) (x1 : Int32) (h : Hp) : Option (Int32 × Hp) :=
  if (hpS h x0).1 = 12 then
  (mX11_isCount x0 x1 h).bind fun v1 =>
  if v1 = 0 then
  (some ((-1 : Int32), h))
  else ((gR 11 5 x0 h).bind fun v3 =>
  (gI 5 3 v3 h).bind fun v4 =>
  (mX11_has v4 x1).bind fun v5 =>
  if v5 = 0 then
  ((gR 11 8 x0 h).bind fun v7 =>
  (gR 11 5 x0 h).bind fun v8 =>
  (mX0_note v7 v8 h).bind fun h10 =>
  (gR 11 5 x0 h10).bind fun v11 =>
  (gI 5 3 v11 h10).bind fun v12 =>
  (sI 5 3 v11 (v12 ||| ((1 : Int32) <<< (x1 &&& 31))) h10).bind fun h13 =>
  (gR 11 5 x0 h13).bind fun v14 =>
  (gI 5 2 v14 h13).bind fun v15 =>
  (gR 11 5 x0 h13).bind fun v16 =>
  (gI 5 3 v16 h13).bind fun v17 =>
  (mJ6_bitCount_0f7a4 v17).bind fun v18 =>
  some ((v15 - v18), h13))
  else (some ((-2 : Int32), h)))
  else none

noncomputable def mX11_days (x0 : Nat) (x1 : Int32) (h : Hp) : Option (Int32 × Hp) :=
  if (hpS h x0).1 = 12 then
  if x1 < (1 : Int32) then
  (some ((-1 : Int32), h))
  else (if (999 : Int32) < x1 then
  (some ((-1 : Int32), h))
  else ((gR 11 5 x0 h).bind fun v1 =>
  (gI 5 0 v1 h).bind fun v2 =>
  if (9999 : Int32) < (v2 + x1) then
  (some ((-2 : Int32), h))
  else ((gR 11 8 x0 h).bind fun v3 =>
  (gR 11 5 x0 h).bind fun v4 =>
  (mX0_note v3 v4 h).bind fun h6 =>
  (gR 11 5 x0 h6).bind fun v7 =>
  (gI 5 0 v7 h6).bind fun v8 =>
  (sI 5 0 v7 (v8 + x1) h6).bind fun h9 =>
  (gR 11 5 x0 h9).bind fun v10 =>
  (gI 5 0 v10 h9).bind fun v11 =>
  some (v11, h9))))
  else none

noncomputable def mX11_undo (x0 : Nat) (h : Hp) : Option (Int32 × Hp) :=
  if (hpS h x0).1 = 12 then
  (gR 11 8 x0 h).bind fun v1 =>
  (gR 11 5 x0 h).bind fun v2 =>
  b2 (mX0_takeBack v1 v2 h) fun v3 h4 =>
  if v3 = 0 then
  (some ((-1 : Int32), h4))
  else ((gR 11 8 x0 h4).bind fun v5 =>
  (gI 0 4 v5 h4).bind fun v6 =>
  some (v6, h4))
  else none

noncomputable def mX11_keep (x0 : Nat) (x1 : Int32) (h : Hp) : Option (Int32 × Hp) :=
  if (hpS h x0).1 = 12 then
  (gR 11 8 x0 h).bind fun v1 =>
  (gR 11 5 x0 h).bind fun v2 =>
  b2 (mX0_store v1 x1 v2 h) fun v3 h4 =>
  (z01 v3).bind fun v => some (v, h4)
  else none

noncomputable def mX11_again (x0 : Nat) (x1 : Int32) (h : Hp) : Option (Int32 × Hp) :=
  if (hpS h x0).1 = 12 then
  (gR 11 8 x0 h).bind fun v1 =>
  (gR 11 5 x0 h).bind fun v2 =>
  b2 (mX0_restore v1 x1 v2 h) fun v3 h4 =>
  (z01 v3).bind fun v => some (v, h4)
  else none

noncomputable def mX11_worlds (x0 : Nat) (x1 : Int32) (h : Hp) : Option (Int32 × Hp) :=
  if (hpS h x0).1 = 12 then
  lsw x1 [(0, (gR 11 3 x0 h).bind fun v1 =>
  (gR 1 17 v1 h).bind fun v2 =>
  (mX10_size v2 h).bind fun v3 =>
  some (v3, h)),
  (1, (mX11_remember x0 h).bind fun h6 =>
  (gR 11 9 x0 h6).bind fun v7 =>
  (mX10_size v7 h6).bind fun v8 =>
  some (v8, h6))] (some ((-1 : Int32), h))
  else none

noncomputable def mX11_clash (x0 : Nat) (x1 : Int32) (x2 : Int32) (h : Hp) : Option (Int32 × Hp) :=
  if (hpS h x0).1 = 12 then
  (mX11_isCount x0 x1 h).bind fun v1 =>
  if v1 = 0 then
  (some ((-1 : Int32), h))
  else ((mX11_isCount x0 x2 h).bind fun v3 =>
  if v3 = 0 then
  (some ((-1 : Int32), h))
  else ((mX11_allege x0 x1 h).bind fun h6 =>
  (gR 11 10 x0 h6).bind fun v7 =>
  (gR 11 5 x0 h6).bind fun v8 =>
  (gR 5 13 v8 h6).bind fun v9 =>
  (mX11_at v9 x2 h6).bind fun v10 =>
  (gR 11 5 x0 h6).bind fun v12 =>
  (gR 5 14 v12 h6).bind fun v13 =>
  (mX11_at v13 x2 h6).bind fun v14 =>
  (mX10_agree v7 v10 v14 h6).bind fun h17 =>
  (gR 11 10 x0 h17).bind fun v18 =>
  (mX10_isEmpty v18 h17).bind fun v19 =>
  if v19 = 0 then
  (some ((0 : Int32), h17))
  else (some ((1 : Int32), h17))))
  else none

noncomputable def mX11_implied (x0 : Nat) (x1 : Int32) (x2 : Int32) (h : Hp) : Option (Int32 × Hp) :=
  if (hpS h x0).1 = 12 then
  (mX11_isCount x0 x1 h).bind fun v1 =>
  if v1 = 0 then
  (some ((-1 : Int32), h))
  else ((mX11_isCount x0 x2 h).bind fun v3 =>
  if v3 = 0 then
  (some ((-1 : Int32), h))
  else ((mX11_remember x0 h).bind fun h6 =>
  (gR 11 9 x0 h6).bind fun v7 =>
  (gR 11 3 x0 h6).bind fun v8 =>
  (mX11_kind x0 x1 h6).bind fun v9 =>
  (mX1_wonBy v8 v9 h6).bind fun v11 =>
  (mX10_and v7 v11 h6).bind fun h14 =>
  (gR 11 9 x0 h14).bind fun v15 =>
  (gR 11 3 x0 h14).bind fun v16 =>
  (mX11_kind x0 x2 h14).bind fun v17 =>
  (mX1_wonBy v16 v17 h14).bind fun v19 =>
  (mX10_within v15 v19 h14).bind fun v21 =>
  if v21 = 0 then
  (some ((0 : Int32), h14))
  else (some ((1 : Int32), h14))))
  else none

noncomputable def mX11_findLack_b289 (x0 : Nat) (x1 : Int32) (x2 : Int32) (x3 : Int32) (x4 : Int32) (h : Hp) : Option ((Int32 × Hp) ⊕ (Int32 × Hp)) :=
  some (.inl ((x4 + (1 : Int32)), h))
noncomputable def mX11_findLack_b212 (x0 : Nat) (x1 : Int32) (x2 : Int32) (x3 : Int32) (x4 : Int32) (t0 : Int32) (h : Hp) : Option ((Int32 × Hp) ⊕ (Int32 × Hp)) :=
  if t0 = 0 then
  ((gR 11 3 x0 h).bind fun v49 =>
  (gR 11 12 x0 h).bind fun v50 =>
  (gR 11 13 x0 h).bind fun v51 =>
  (gI 3 2 v51 h).bind fun v52 =>
  (gR 11 13 x0 h).bind fun v53 =>
  (gI 3 3 v53 h).bind fun v54 =>
  (mX9_markOf v50 v52 v54 h).bind fun v55 =>
  (mX1_sound v49 x2 v55 h).bind fun v57 =>
  if v57 = 0 then
  (mX11_findLack_b289 x0 x1 x2 x3 x4 h)
  else ((gR 11 5 x0 h).bind fun v59 =>
  (gR 5 11 v59 h).bind fun v60 =>
  (mX11_at v60 x1 h).bind fun v61 =>
  (gR 11 13 x0 h).bind fun v63 =>
  (gI 3 2 v63 h).bind fun v64 =>
  (mX11_leastBack x0 x1 (x3 ||| v64) h).bind fun v65 =>
  (gR 11 3 x0 h).bind fun v67 =>
  (gI 1 5 v67 h).bind fun v68 =>
  if v68 < (v61 + v65) then
  (mX11_findLack_b289 x0 x1 x2 x3 x4 h)
  else (xt (some ((1 : Int32), h)))))
  else (mX11_findLack_b289 x0 x1 x2 x3 x4 h)
noncomputable def mX11_findLack_l155f (x0 : Nat) (x1 : Int32) (x2 : Int32) (x3 : Int32) (x4 : Int32) (h : Hp) : Option ((Int32 × Hp) ⊕ (Int32 × Hp)) :=
  if x4 < (6561 : Int32) then
  ((gR 11 13 x0 h).bind fun v37 =>
  b2 (mX3_more v37 h) fun v38 h39 =>
  if v38 = 0 then
  (xt (some ((0 : Int32), h39)))
  else ((gR 11 13 x0 h39).bind fun v40 =>
  (gI 3 2 v40 h39).bind fun v41 =>
  (gR 11 5 x0 h39).bind fun v42 =>
  (mX5_known v42 h39).bind fun v43 =>
  (gR 11 13 x0 h39).bind fun v45 =>
  (gI 3 3 v45 h39).bind fun v46 =>
  (gR 11 5 x0 h39).bind fun v47 =>
  (gI 5 8 v47 h39).bind fun v48 =>
  if ((v41 &&& v43) &&& (v46 ^^^ v48)) = 0 then
  (mX11_findLack_b212 x0 x1 x2 x3 x4 (0 : Int32) h39)
  else (mX11_findLack_b212 x0 x1 x2 x3 x4 (1 : Int32) h39)))
  else (xt (some ((0 : Int32), h)))
noncomputable def mX11_findLack_l155 (x0 : Nat) (x1 : Int32) (x2 : Int32) (x3 : Int32) (x4 : Int32) (h : Hp) : Option (Int32 × Hp) :=
  lp (fun s : (Int32 × Hp) => mX11_findLack_l155f x0 x1 x2 x3 s.1 s.2) (x4, h)
noncomputable def mX11_findLack_l58f (x0 : Nat) (x1 : Int32) (x2 : Int32) (x3 : Int32) (h : Hp) : Option ((Int32 × Hp) ⊕ (Int32 × Hp)) :=
  if x3 < (256 : Int32) then
  ((gR 11 12 x0 h).bind fun v69 =>
  (gR 11 3 x0 h).bind fun v70 =>
  (mX1_flawsAt v70 x2 x3 h).bind fun v71 =>
  (mX9_setLeaf v69 x3 v71 h).bind fun h74 =>
  some (.inl ((x3 + (1 : Int32)), h74)))
  else (xt ((gR 11 5 x0 h).bind fun v17 =>
  (gR 5 13 v17 h).bind fun v18 =>
  (mX11_at v18 x1 h).bind fun v19 =>
  (gR 11 12 x0 h).bind fun v21 =>
  (gR 11 3 x0 h).bind fun v22 =>
  (gI 1 1 v22 h).bind fun v23 =>
  (gR 11 5 x0 h).bind fun v24 =>
  (gR 5 14 v24 h).bind fun v25 =>
  (mX11_at v25 x1 h).bind fun v26 =>
  (mX9_grow v21 ((((1 : Int32) <<< (v23 &&& 31)) - (1 : Int32)) &&& (v19 ^^^ (-1 : Int32))) v26 h).bind fun h29 =>
  (mX11_workOutBacks x0 x1 h29).bind fun h31 =>
  (gR 11 13 x0 h31).bind fun v32 =>
  (gR 11 12 x0 h31).bind fun v33 =>
  (gI 9 4 v33 h31).bind fun v34 =>
  (mX3_start v32 v34 h31).bind fun h36 =>
  mX11_findLack_l155 x0 x1 x2 v19 (0 : Int32) h36))
noncomputable def mX11_findLack_l58 (x0 : Nat) (x1 : Int32) (x2 : Int32) (x3 : Int32) (h : Hp) : Option (Int32 × Hp) :=
  lp (fun s : (Int32 × Hp) => mX11_findLack_l58f x0 x1 x2 s.1 s.2) (x3, h)
noncomputable def mX11_findLack (x0 : Nat) (x1 : Int32) (h : Hp) : Option (Int32 × Hp) :=
  if (hpS h x0).1 = 12 then
  (mX11_remember x0 h).bind fun h2 =>
  (mX11_kind x0 x1 h2).bind fun v3 =>
  (gR 11 5 x0 h2).bind fun v5 =>
  (gI 5 3 v5 h2).bind fun v6 =>
  (mX11_has v6 x1).bind fun v7 =>
  if v7 = 0 then
  ((gR 11 3 x0 h2).bind fun v9 =>
  (gR 11 9 x0 h2).bind fun v10 =>
  (mX1_needsMet v9 v3 v10 h2).bind fun v11 =>
  if v11 = 0 then
  (some ((0 : Int32), h2))
  else ((gR 11 3 x0 h2).bind fun v13 =>
  (gR 11 9 x0 h2).bind fun v14 =>
  (mX1_barred v13 v3 v14 h2).bind fun v15 =>
  if v15 = 0 then
  (mX11_findLack_l58 x0 x1 v3 (0 : Int32) h2)
  else (some ((0 : Int32), h2))))
  else (some ((0 : Int32), h2))
  else none

noncomputable def mX11_lacks (x0 : Nat) (x1 : Int32) (x2 : Int32) (h : Hp) : Option (Int32 × Hp) :=
  if (hpS h x0).1 = 12 then
  (mX11_isCount x0 x1 h).bind fun v1 =>
  if v1 = 0 then
  (some ((-1 : Int32), h))
  else (if x2 < 0 then
  (some ((-1 : Int32), h))
  else (if (2 : Int32) < x2 then
  (some ((-1 : Int32), h))
  else (b2 (mX11_findLack x0 x1 h) fun v3 h4 =>
  if v3 = 0 then
  (some ((-2 : Int32), h4))
  else (if x2 = 0 then
  ((gR 11 13 x0 h4).bind fun v9 =>
  (gI 3 2 v9 h4).bind fun v10 =>
  (mJ6_bitCount_0f7a4 v10).bind fun v11 =>
  some (v11, h4))
  else (if x2 = (1 : Int32) then
  ((gR 11 13 x0 h4).bind fun v7 =>
  (gI 3 2 v7 h4).bind fun v8 =>
  some (v8, h4))
  else ((gR 11 13 x0 h4).bind fun v5 =>
  (gI 3 3 v5 h4).bind fun v6 =>
  some (v6, h4)))))))
  else none

noncomputable def mX11_grown_b65 (x3 : Int64) (h : Hp) : Option Int32 :=
  if 0 < (lg_cmp x3 (2147483647 : Int64)) then
  (some (-2 : Int32))
  else (some x3.toInt32)
noncomputable def mX11_grown_l37f (x2 : Int32) (h : Hp) (x3 : Int64) (x5 : Int32) : Option ((Int64 × Int32) ⊕ Int32) :=
  if x5 < x2 then
  (if 0 < (lg_cmp x3 (2147483647 : Int64)) then
  (xt (mX11_grown_b65 x3 h))
  else ((nzL (10 : Int64)).bind fun _ =>
  some (.inl ((x3 + (x3 / (10 : Int64))), (x5 + (1 : Int32))))))
  else (xt (mX11_grown_b65 x3 h))
noncomputable def mX11_grown_l37 (x2 : Int32) (x3 : Int64) (x5 : Int32) (h : Hp) : Option Int32 :=
  lp (fun s : (Int64 × Int32) => mX11_grown_l37f x2 h s.1 s.2) (x3, x5)
noncomputable def mX11_grown (x0 : Nat) (x1 : Int32) (x2 : Int32) (h : Hp) : Option Int32 :=
  if (hpS h x0).1 = 12 then
  (mX11_isCount x0 x1 h).bind fun v1 =>
  if v1 = 0 then
  (some (-1 : Int32))
  else (if x2 < 0 then
  (some (-1 : Int32))
  else (if (400 : Int32) < x2 then
  (some (-1 : Int32))
  else ((gR 11 5 x0 h).bind fun v3 =>
  (gR 5 10 v3 h).bind fun v4 =>
  (mX11_at v4 x1 h).bind fun v5 =>
  mX11_grown_l37 x2 v5.toInt64 (0 : Int32) h)))
  else none

noncomputable def mX11_turningFacts_b60 (x0 : Nat) (x1 : Int32) (x2 : Nat) (x3 : Int32) (x4 : Int32) (h : Hp) : Option ((Int32 × Int32) ⊕ Int32) :=
  some (.inl (x3, (x4 + (1 : Int32))))
noncomputable def mX11_turningFacts_l5f (x0 : Nat) (x1 : Int32) (x2 : Nat) (h : Hp) (x3 : Int32) (x4 : Int32) : Option ((Int32 × Int32) ⊕ Int32) :=
  (gR 11 3 x0 h).bind fun v1 =>
  (gI 1 1 v1 h).bind fun v2 =>
  if x4 < v2 then
  (if x4 < (8 : Int32) then
  ((gR 11 9 x0 h).bind fun v3 =>
  (mX10_holds v3 (x1 ^^^ ((1 : Int32) <<< (x4 &&& 31))) h).bind fun v4 =>
  if v4 = 0 then
  (mX11_turningFacts_b60 x0 x1 x2 x3 x4 h)
  else ((mX10_holds x2 (x1 ^^^ ((1 : Int32) <<< (x4 &&& 31))) h).bind fun v6 =>
  if v6 = 0 then
  (mX11_turningFacts_b60 x0 x1 x2 (x3 ||| ((1 : Int32) <<< (x4 &&& 31))) x4 h)
  else (mX11_turningFacts_b60 x0 x1 x2 x3 x4 h)))
  else (xt (some x3)))
  else (xt (some x3))
noncomputable def mX11_turningFacts_l5 (x0 : Nat) (x1 : Int32) (x2 : Nat) (x3 : Int32) (x4 : Int32) (h : Hp) : Option Int32 :=
  lp (fun s : (Int32 × Int32) => mX11_turningFacts_l5f x0 x1 x2 h s.1 s.2) (x3, x4)
noncomputable def mX11_turningFacts (x0 : Nat) (x1 : Int32) (x2 : Nat) (h : Hp) : Option Int32 :=
  if (hpS h x0).1 = 12 then
  mX11_turningFacts_l5 x0 x1 x2 (0 : Int32) (0 : Int32) h
  else none

noncomputable def mX11_issues_b71 (x0 : Nat) (x2 : Nat) (x3 : Int32) (x4 : Int32) (h : Hp) : Option ((Int32 × Int32) ⊕ (Int32 × Hp)) :=
  some (.inl (x3, (x4 + (1 : Int32))))
noncomputable def mX11_issues_l32f (x0 : Nat) (x2 : Nat) (h : Hp) (x3 : Int32) (x4 : Int32) : Option ((Int32 × Int32) ⊕ (Int32 × Hp)) :=
  if x4 < (256 : Int32) then
  ((gR 11 9 x0 h).bind fun v10 =>
  (mX10_holds v10 x4 h).bind fun v11 =>
  if v11 = 0 then
  (mX11_issues_b71 x0 x2 x3 x4 h)
  else ((mX10_holds x2 x4 h).bind fun v13 =>
  if v13 = 0 then
  (mX11_issues_b71 x0 x2 x3 x4 h)
  else ((mX11_turningFacts x0 x4 x2 h).bind fun v15 =>
  mX11_issues_b71 x0 x2 (x3 ||| v15) x4 h)))
  else (xt (some (x3, h)))
noncomputable def mX11_issues_l32 (x0 : Nat) (x2 : Nat) (x3 : Int32) (x4 : Int32) (h : Hp) : Option (Int32 × Hp) :=
  lp (fun s : (Int32 × Int32) => mX11_issues_l32f x0 x2 h s.1 s.2) (x3, x4)
noncomputable def mX11_issues (x0 : Nat) (x1 : Int32) (h : Hp) : Option (Int32 × Hp) :=
  if (hpS h x0).1 = 12 then
  (mX11_isCount x0 x1 h).bind fun v1 =>
  if v1 = 0 then
  (some ((-1 : Int32), h))
  else ((mX11_remember x0 h).bind fun h4 =>
  (gR 11 3 x0 h4).bind fun v5 =>
  (mX11_kind x0 x1 h4).bind fun v6 =>
  (mX1_wonBy v5 v6 h4).bind fun v8 =>
  mX11_issues_l32 x0 v8 (0 : Int32) (0 : Int32) h4)
  else none

noncomputable def mX11_judged (x0 : Nat) (x1 : Int32) (h : Hp) : Option (Int32 × Hp) :=
  if (hpS h x0).1 = 12 then
  (mX11_isCount x0 x1 h).bind fun v1 =>
  if v1 = 0 then
  (some ((-1 : Int32), h))
  else ((mX11_remember x0 h).bind fun h4 =>
  (gR 11 9 x0 h4).bind fun v5 =>
  (gR 11 3 x0 h4).bind fun v6 =>
  (mX11_kind x0 x1 h4).bind fun v7 =>
  (mX1_wonBy v6 v7 h4).bind fun v9 =>
  (mX10_howIn v5 v9 h4).bind fun v11 =>
  some (v11, h4))
  else none

noncomputable def mX11_growTrial_b59 (x0 : Nat) (x2 : Nat) (x3 : Int32) (t0 : Nat) (t1 : Int32) (t2 : Int32) (h : Hp) : Option ((Int32 × Hp) ⊕ Hp) :=
  (mX9_setLeaf t0 t1 t2 h).bind fun h25 =>
  some (.inl ((x3 + (1 : Int32)), h25))
noncomputable def mX11_growTrial_l19f (x0 : Nat) (x2 : Nat) (x3 : Int32) (h : Hp) : Option ((Int32 × Hp) ⊕ Hp) :=
  if x3 < (256 : Int32) then
  ((gR 11 12 x0 h).bind fun v18 =>
  (gR 11 9 x0 h).bind fun v19 =>
  (mX10_holds v19 x3 h).bind fun v20 =>
  if v20 = 0 then
  (mX11_growTrial_b59 x0 x2 x3 v18 x3 (0 : Int32) h)
  else ((mX10_holds x2 x3 h).bind fun v22 =>
  if v22 = 0 then
  (mX11_growTrial_b59 x0 x2 x3 v18 x3 (2 : Int32) h)
  else (mX11_growTrial_b59 x0 x2 x3 v18 x3 (1 : Int32) h)))
  else (xt ((gR 11 12 x0 h).bind fun v8 =>
  (mX11_unknown x0 h).bind fun v9 =>
  (gR 11 5 x0 h).bind fun v11 =>
  (gI 5 8 v11 h).bind fun v12 =>
  (gR 11 5 x0 h).bind fun v13 =>
  (mX5_known v13 h).bind fun v14 =>
  (mX9_grow v8 v9 (v12 &&& v14) h).bind fun h17 =>
  some h17))
noncomputable def mX11_growTrial_l19 (x0 : Nat) (x2 : Nat) (x3 : Int32) (h : Hp) : Option Hp :=
  lp (fun s : (Int32 × Hp) => mX11_growTrial_l19f x0 x2 s.1 s.2) (x3, h)
noncomputable def mX11_growTrial (x0 : Nat) (x1 : Int32) (h : Hp) : Option Hp :=
  if (hpS h x0).1 = 12 then
  (mX11_remember x0 h).bind fun h2 =>
  (gR 11 3 x0 h2).bind fun v3 =>
  (mX11_kind x0 x1 h2).bind fun v4 =>
  (mX1_wonBy v3 v4 h2).bind fun v6 =>
  mX11_growTrial_l19 x0 v6 (0 : Int32) h2
  else none

noncomputable def mX11_tries (x0 : Nat) (x1 : Int32) (x2 : Int32) (h : Hp) : Option (Int32 × Hp) :=
  if (hpS h x0).1 = 12 then
  (mX11_isCount x0 x1 h).bind fun v1 =>
  if v1 = 0 then
  (some ((-1 : Int32), h))
  else (if x2 < 0 then
  (some ((-1 : Int32), h))
  else (if (1 : Int32) < x2 then
  (some ((-1 : Int32), h))
  else ((mX11_growTrial x0 x1 h).bind fun h4 =>
  (gR 11 12 x0 h4).bind fun v5 =>
  (mX9_countTrials v5 h4).bind fun h7 =>
  if x2 = 0 then
  ((gR 11 12 x0 h7).bind fun v14 =>
  (mX9_value v14 h7).bind fun v15 =>
  some (v15, h7))
  else ((gR 11 12 x0 h7).bind fun v8 =>
  (mX9_value v8 h7).bind fun v9 =>
  if v9 = 0 then
  (some ((-2 : Int32), h7))
  else ((gR 11 12 x0 h7).bind fun v11 =>
  (mX9_firstTrial v11 h7).bind fun v12 =>
  some (v12, h7))))))
  else none

noncomputable def mX11_inLowestTerms_b73 (x5 : Int64) (t0 : Int64) : Option Int64 :=
  (nzL x5).bind fun _ =>
  some (t0 / x5)
noncomputable def mX11_inLowestTerms_b45 (x0 : Int64) (x2 : Int64) (x4 : Int32) (x5 : Int64) : Option Int64 :=
  if (lg_cmp x5 (0 : Int64)) = 0 then
  (if x4 = 0 then
  (some (0 : Int64))
  else (some (1 : Int64)))
  else (if x4 = 0 then
  (mX11_inLowestTerms_b73 x5 x0)
  else (mX11_inLowestTerms_b73 x5 x2))
noncomputable def mX11_inLowestTerms_l9f (x0 : Int64) (x2 : Int64) (x4 : Int32) (x5 : Int64) (x7 : Int64) (x9 : Int32) : Option ((Int64 × Int64 × Int32) ⊕ Int64) :=
  if x9 < (200 : Int32) then
  (if (lg_cmp x7 (0 : Int64)) = 0 then
  (xt (mX11_inLowestTerms_b45 x0 x2 x4 x5))
  else ((nzL x7).bind fun _ =>
  some (.inl (x7, (x5 - x5 / x7 * x7), (x9 + (1 : Int32))))))
  else (xt (mX11_inLowestTerms_b45 x0 x2 x4 x5))
noncomputable def mX11_inLowestTerms_l9 (x0 : Int64) (x2 : Int64) (x4 : Int32) (x5 : Int64) (x7 : Int64) (x9 : Int32) : Option Int64 :=
  lp (fun s : (Int64 × Int64 × Int32) => mX11_inLowestTerms_l9f x0 x2 x4 s.1 s.2.1 s.2.2) (x5, x7, x9)
noncomputable def mX11_inLowestTerms (x0 : Int64) (x2 : Int64) (x4 : Int32) : Option Int64 :=
  mX11_inLowestTerms_l9 x0 x2 x4 x2 x0 (0 : Int32)

noncomputable def mX11_chance (x0 : Nat) (x1 : Int32) (x2 : Int32) (h : Hp) : Option (Int32 × Hp) :=
  if (hpS h x0).1 = 12 then
  (mX11_isCount x0 x1 h).bind fun v1 =>
  if v1 = 0 then
  (some ((-1 : Int32), h))
  else (if x2 < 0 then
  (some ((-1 : Int32), h))
  else (if (1 : Int32) < x2 then
  (some ((-1 : Int32), h))
  else ((mX11_remember x0 h).bind fun h4 =>
  (gR 11 3 x0 h4).bind fun v5 =>
  (gR 11 9 x0 h4).bind fun v6 =>
  (mX1_weigh v5 v6 h4).bind fun v7 =>
  (gR 11 9 x0 h4).bind fun v9 =>
  (gR 11 3 x0 h4).bind fun v10 =>
  (mX11_kind x0 x1 h4).bind fun v11 =>
  (mX1_wonBy v10 v11 h4).bind fun v13 =>
  (mX10_and v9 v13 h4).bind fun h16 =>
  (gR 11 3 x0 h16).bind fun v17 =>
  (gR 11 9 x0 h16).bind fun v18 =>
  (mX1_weigh v17 v18 h16).bind fun v19 =>
  (mX11_inLowestTerms v19 v7 x2).bind fun v21 =>
  some (v21.toInt32, h16))))
  else none

noncomputable def mX11_standing_b29 (x0 : Nat) (x1 : Int32) (x2 : Int32) (h : Hp) : Option ((Int32 × Int32 × Hp) ⊕ (Int32 × Hp)) :=
  some (.inl (x1, (x2 + (1 : Int32)), h))
noncomputable def mX11_standing_l4f (x0 : Nat) (x1 : Int32) (x2 : Int32) (h : Hp) : Option ((Int32 × Int32 × Hp) ⊕ (Int32 × Hp)) :=
  (gR 11 5 x0 h).bind fun v1 =>
  (gI 5 2 v1 h).bind fun v2 =>
  if x2 < v2 then
  (b2 (mX11_failing x0 x2 h) fun v3 h4 =>
  if v3 = 0 then
  (mX11_standing_b29 x0 (x1 ||| ((1 : Int32) <<< (x2 &&& 31))) x2 h4)
  else (mX11_standing_b29 x0 x1 x2 h4))
  else (xt (some (x1, h)))
noncomputable def mX11_standing_l4 (x0 : Nat) (x1 : Int32) (x2 : Int32) (h : Hp) : Option (Int32 × Hp) :=
  lp (fun s : (Int32 × Int32 × Hp) => mX11_standing_l4f x0 s.1 s.2.1 s.2.2) (x1, x2, h)
noncomputable def mX11_standing (x0 : Nat) (h : Hp) : Option (Int32 × Hp) :=
  if (hpS h x0).1 = 12 then
  mX11_standing_l4 x0 (0 : Int32) (0 : Int32) h
  else none

noncomputable def mX11_wonIn_b53 (x0 : Nat) (x1 : Int32) (x2 : Int32) (x3 : Int32) (x4 : Int32) (h : Hp) : Option ((Int32 × Int32) ⊕ Int32) :=
  some (.inl (x3, (x4 + (1 : Int32))))
noncomputable def mX11_wonIn_l5f (x0 : Nat) (x1 : Int32) (x2 : Int32) (h : Hp) (x3 : Int32) (x4 : Int32) : Option ((Int32 × Int32) ⊕ Int32) :=
  (gR 11 5 x0 h).bind fun v1 =>
  (gI 5 2 v1 h).bind fun v2 =>
  if x4 < v2 then
  ((mX11_has x2 x4).bind fun v3 =>
  if v3 = 0 then
  (mX11_wonIn_b53 x0 x1 x2 x3 x4 h)
  else ((gR 11 3 x0 h).bind fun v5 =>
  (mX11_kind x0 x4 h).bind fun v6 =>
  (mX1_wonBy v5 v6 h).bind fun v8 =>
  (mX10_holds v8 x1 h).bind fun v10 =>
  if v10 = 0 then
  (mX11_wonIn_b53 x0 x1 x2 x3 x4 h)
  else (mX11_wonIn_b53 x0 x1 x2 (x3 ||| ((1 : Int32) <<< (x4 &&& 31))) x4 h)))
  else (xt (some x3))
noncomputable def mX11_wonIn_l5 (x0 : Nat) (x1 : Int32) (x2 : Int32) (x3 : Int32) (x4 : Int32) (h : Hp) : Option Int32 :=
  lp (fun s : (Int32 × Int32) => mX11_wonIn_l5f x0 x1 x2 h s.1 s.2) (x3, x4)
noncomputable def mX11_wonIn (x0 : Nat) (x1 : Int32) (x2 : Int32) (h : Hp) : Option Int32 :=
  if (hpS h x0).1 = 12 then
  mX11_wonIn_l5 x0 x1 x2 (0 : Int32) (0 : Int32) h
  else none

noncomputable def mX11_survey_b61 (x0 : Nat) (x1 : Int32) (x2 : Int32) (h : Hp) : Option ((Int32 × Hp) ⊕ Hp) :=
  some (.inl ((x2 + (1 : Int32)), h))
noncomputable def mX11_survey_l18f (x0 : Nat) (x1 : Int32) (x2 : Int32) (h : Hp) : Option ((Int32 × Hp) ⊕ Hp) :=
  if x2 < (256 : Int32) then
  ((gR 11 9 x0 h).bind fun v8 =>
  (mX10_holds v8 x2 h).bind fun v9 =>
  if v9 = 0 then
  (mX11_survey_b61 x0 x1 x2 h)
  else ((gR 11 14 x0 h).bind fun v11 =>
  (mX11_wonIn x0 x2 x1 h).bind fun v12 =>
  (gR 11 3 x0 h).bind fun v14 =>
  (gR 1 16 v14 h).bind fun v15 =>
  (mX11_at v15 x2 h).bind fun v16 =>
  (mX6_enter v11 v12 x2 v16 h).bind fun h19 =>
  mX11_survey_b61 x0 x1 x2 h19))
  else (xt (some h))
noncomputable def mX11_survey_l18 (x0 : Nat) (x1 : Int32) (x2 : Int32) (h : Hp) : Option Hp :=
  lp (fun s : (Int32 × Hp) => mX11_survey_l18f x0 x1 s.1 s.2) (x2, h)
noncomputable def mX11_survey (x0 : Nat) (h : Hp) : Option Hp :=
  if (hpS h x0).1 = 12 then
  (mX11_remember x0 h).bind fun h2 =>
  b2 (mX11_standing x0 h2) fun v3 h4 =>
  (gR 11 14 x0 h4).bind fun v5 =>
  (mX6_clear v5 h4).bind fun h7 =>
  mX11_survey_l18 x0 v3 (0 : Int32) h7
  else none

noncomputable def mX11_awardOf_b81 (x0 : Nat) (x1 : Int32) (x2 : Int32) (x3 : Int32) (x4 : Int32) (x5 : Int32) (h : Hp) : Option ((Int32 × Int32) ⊕ ((Int32 × Int32) ⊕ Int32)) :=
  some (.inl (x4, (x5 + (1 : Int32))))
noncomputable def mX11_awardOf_l21f (x0 : Nat) (x1 : Int32) (x2 : Int32) (x3 : Int32) (h : Hp) (x4 : Int32) (x5 : Int32) : Option ((Int32 × Int32) ⊕ ((Int32 × Int32) ⊕ Int32)) :=
  (gR 11 5 x0 h).bind fun v3 =>
  (gI 5 2 v3 h).bind fun v4 =>
  if x5 < v4 then
  ((mX11_has x1 x5).bind fun v5 =>
  if v5 = 0 then
  (mX11_awardOf_b81 x0 x1 x2 x3 x4 x5 h)
  else ((gR 11 3 x0 h).bind fun v7 =>
  (gR 1 11 v7 h).bind fun v8 =>
  (mX11_kind x0 x5 h).bind fun v9 =>
  (mX11_at v8 v9 h).bind fun v11 =>
  if v11 = x3 then
  ((gR 11 5 x0 h).bind fun v13 =>
  (gR 5 10 v13 h).bind fun v14 =>
  (mX11_at v14 x5 h).bind fun v15 =>
  mX11_awardOf_b81 x0 x1 x2 x3 (mmax x4 v15) x5 h)
  else (mX11_awardOf_b81 x0 x1 x2 x3 x4 x5 h)))
  else (xt (some (.inl ((x2 + x4), (x3 + (1 : Int32))))))
noncomputable def mX11_awardOf_l21 (x0 : Nat) (x1 : Int32) (x2 : Int32) (x3 : Int32) (x4 : Int32) (x5 : Int32) (h : Hp) : Option ((Int32 × Int32) ⊕ Int32) :=
  lp (fun s : (Int32 × Int32) => mX11_awardOf_l21f x0 x1 x2 x3 h s.1 s.2) (x4, x5)
noncomputable def mX11_awardOf_l4f (x0 : Nat) (x1 : Int32) (h : Hp) (x2 : Int32) (x3 : Int32) : Option ((Int32 × Int32) ⊕ Int32) :=
  (gR 11 3 x0 h).bind fun v1 =>
  (gI 1 2 v1 h).bind fun v2 =>
  if x3 < v2 then
  (mX11_awardOf_l21 x0 x1 x2 x3 (0 : Int32) (0 : Int32) h)
  else (xt (some x2))
noncomputable def mX11_awardOf_l4 (x0 : Nat) (x1 : Int32) (x2 : Int32) (x3 : Int32) (h : Hp) : Option Int32 :=
  lp (fun s : (Int32 × Int32) => mX11_awardOf_l4f x0 x1 h s.1 s.2) (x2, x3)
noncomputable def mX11_awardOf (x0 : Nat) (x1 : Int32) (h : Hp) : Option Int32 :=
  if (hpS h x0).1 = 12 then
  mX11_awardOf_l4 x0 x1 (0 : Int32) (0 : Int32) h
  else none

noncomputable def mX11_award_b87 (x0 : Nat) (x1 : Int32) (x2 : Int32) (x3 : Int32) (x4 : Int32) (x5 : Int32) (h : Hp) : Option ((Int32 × Int32 × Int32 × Int32) ⊕ (Int32 × Hp)) :=
  some (.inl (x2, x3, x4, (x5 + (1 : Int32))))
noncomputable def mX11_award_l27f (x0 : Nat) (x1 : Int32) (h : Hp) (x2 : Int32) (x3 : Int32) (x4 : Int32) (x5 : Int32) : Option ((Int32 × Int32 × Int32 × Int32) ⊕ (Int32 × Hp)) :=
  (gR 11 14 x0 h).bind fun v3 =>
  (gI 6 5 v3 h).bind fun v4 =>
  if x5 < v4 then
  ((gR 11 14 x0 h).bind fun v5 =>
  (gR 6 0 v5 h).bind fun v6 =>
  (mX11_at v6 x5 h).bind fun v7 =>
  (mX11_awardOf x0 v7 h).bind fun v9 =>
  if x3 < v9 then
  ((gR 11 14 x0 h).bind fun v11 =>
  (gR 6 2 v11 h).bind fun v12 =>
  (mX11_at v12 x5 h).bind fun v13 =>
  mX11_award_b87 x0 x1 (mmin x2 v9) v9 v13 x5 h)
  else (mX11_award_b87 x0 x1 (mmin x2 v9) x3 x4 x5 h))
  else (xt (if x1 = 0 then
  (some (x2, h))
  else (if x1 = (1 : Int32) then
  (some (x3, h))
  else (some (x4, h)))))
noncomputable def mX11_award_l27 (x0 : Nat) (x1 : Int32) (x2 : Int32) (x3 : Int32) (x4 : Int32) (x5 : Int32) (h : Hp) : Option (Int32 × Hp) :=
  lp (fun s : (Int32 × Int32 × Int32 × Int32) => mX11_award_l27f x0 x1 h s.1 s.2.1 s.2.2.1 s.2.2.2) (x2, x3, x4, x5)
noncomputable def mX11_award (x0 : Nat) (x1 : Int32) (h : Hp) : Option (Int32 × Hp) :=
  if (hpS h x0).1 = 12 then
  if x1 < 0 then
  (some ((-1 : Int32), h))
  else (if (2 : Int32) < x1 then
  (some ((-1 : Int32), h))
  else ((mX11_survey x0 h).bind fun h2 =>
  mX11_award_l27 x0 x1 (2147483647 : Int32) (-1 : Int32) (0 : Int32) (0 : Int32) h2))
  else none

noncomputable def mX11_meant_b9 (h : Hp) : Option (Int64 × Hp) :=
  some ((-1 : Int64), h)
noncomputable def mX11_meant_l22f (x0 : Nat) (x1 : Int32) (h : Hp) (x2 : Int64) (x4 : Int32) : Option ((Int64 × Int32) ⊕ (Int64 × Hp)) :=
  (gR 11 14 x0 h).bind fun v3 =>
  (gI 6 5 v3 h).bind fun v4 =>
  if x4 < v4 then
  ((gR 11 14 x0 h).bind fun v11 =>
  (gR 6 0 v11 h).bind fun v12 =>
  (mX11_at v12 x4 h).bind fun v13 =>
  (mX11_awardOf x0 v13 h).bind fun v15 =>
  (gR 11 14 x0 h).bind fun v17 =>
  (gR 6 3 v17 h).bind fun v18 =>
  (mX11_longAt v18 x4 h).bind fun v19 =>
  some (.inl ((x2 + (v15.toInt64 * v19)), (x4 + (1 : Int32)))))
  else (xt ((gR 11 3 x0 h).bind fun v5 =>
  (gR 11 9 x0 h).bind fun v6 =>
  (mX1_weigh v5 v6 h).bind fun v7 =>
  (mX11_inLowestTerms x2 v7 x1).bind fun v9 =>
  some (v9, h)))
noncomputable def mX11_meant_l22 (x0 : Nat) (x1 : Int32) (x2 : Int64) (x4 : Int32) (h : Hp) : Option (Int64 × Hp) :=
  lp (fun s : (Int64 × Int32) => mX11_meant_l22f x0 x1 h s.1 s.2) (x2, x4)
noncomputable def mX11_meant (x0 : Nat) (x1 : Int32) (h : Hp) : Option (Int64 × Hp) :=
  if (hpS h x0).1 = 12 then
  if x1 < 0 then
  (mX11_meant_b9 h)
  else (if (1 : Int32) < x1 then
  (mX11_meant_b9 h)
  else ((mX11_survey x0 h).bind fun h2 =>
  mX11_meant_l22 x0 x1 (0 : Int64) (0 : Int32) h2))
  else none

noncomputable def mX11_outcomes (x0 : Nat) (h : Hp) : Option (Int32 × Hp) :=
  if (hpS h x0).1 = 12 then
  (mX11_survey x0 h).bind fun h2 =>
  (gR 11 14 x0 h2).bind fun v3 =>
  (gI 6 5 v3 h2).bind fun v4 =>
  some (v4, h2)
  else none

noncomputable def mX11_outcome (x0 : Nat) (x1 : Int32) (x2 : Int32) (h : Hp) : Option (Int32 × Hp) :=
  if (hpS h x0).1 = 12 then
  (mX11_survey x0 h).bind fun h2 =>
  if x1 < 0 then
  (some ((-1 : Int32), h2))
  else ((gR 11 14 x0 h2).bind fun v3 =>
  (gI 6 5 v3 h2).bind fun v4 =>
  if x1 < v4 then
  (tsw x2 (0) [(gR 11 14 x0 h2).bind fun v5 =>
  (gR 6 0 v5 h2).bind fun v6 =>
  (mX11_at v6 x1 h2).bind fun v7 =>
  some (v7, h2),
  (gR 11 14 x0 h2).bind fun v9 =>
  (gR 6 1 v9 h2).bind fun v10 =>
  (mX11_at v10 x1 h2).bind fun v11 =>
  some (v11, h2),
  (gR 11 14 x0 h2).bind fun v13 =>
  (gR 6 2 v13 h2).bind fun v14 =>
  (mX11_at v14 x1 h2).bind fun v15 =>
  some (v15, h2)] (some ((-1 : Int32), h2)))
  else (some ((-1 : Int32), h2)))
  else none

noncomputable def mX11_seekProofs_b82 (x0 : Nat) (x2 : Int32) (x3 : Int32) (x4 : Int32) (x5 : Int32) (h : Hp) : Option ((Int32 × Int32 × Hp) ⊕ (Int32 × Hp)) :=
  some (.inl (x4, (x5 + (1 : Int32)), h))
noncomputable def mX11_seekProofs_l30f (x0 : Nat) (x2 : Int32) (x3 : Int32) (x4 : Int32) (x5 : Int32) (h : Hp) : Option ((Int32 × Int32 × Hp) ⊕ (Int32 × Hp)) :=
  if x5 < (6561 : Int32) then
  (if x4 = x2 then
  (xt (some (x4, h)))
  else ((gR 11 13 x0 h).bind fun v6 =>
  b2 (mX3_more v6 h) fun v7 h8 =>
  if v7 = 0 then
  (xt (some (x4, h8)))
  else ((gR 11 12 x0 h8).bind fun v9 =>
  (gR 11 13 x0 h8).bind fun v10 =>
  (gI 3 2 v10 h8).bind fun v11 =>
  (gR 11 13 x0 h8).bind fun v12 =>
  (gI 3 3 v12 h8).bind fun v13 =>
  (mX9_isProof v9 v11 v13 x3 h8).bind fun v14 =>
  if v14 = 0 then
  (mX11_seekProofs_b82 x0 x2 x3 x4 x5 h8)
  else (mX11_seekProofs_b82 x0 x2 x3 (x4 + (1 : Int32)) x5 h8))))
  else (xt (some (x4, h)))
noncomputable def mX11_seekProofs_l30 (x0 : Nat) (x2 : Int32) (x3 : Int32) (x4 : Int32) (x5 : Int32) (h : Hp) : Option (Int32 × Hp) :=
  lp (fun s : (Int32 × Int32 × Hp) => mX11_seekProofs_l30f x0 x2 x3 s.1 s.2.1 s.2.2) (x4, x5, h)
noncomputable def mX11_seekProofs_b9 (x0 : Nat) (x2 : Int32) (t0 : Int32) (h : Hp) : Option (Int32 × Hp) :=
  (gR 11 13 x0 h).bind fun v1 =>
  (gR 11 12 x0 h).bind fun v2 =>
  (gI 9 4 v2 h).bind fun v3 =>
  (mX3_start v1 v3 h).bind fun h5 =>
  mX11_seekProofs_l30 x0 x2 t0 (0 : Int32) (0 : Int32) h5
noncomputable def mX11_seekProofs (x0 : Nat) (x1 : Int32) (x2 : Int32) (h : Hp) : Option (Int32 × Hp) :=
  if (hpS h x0).1 = 12 then
  if x1 = 0 then
  (mX11_seekProofs_b9 x0 x2 (2 : Int32) h)
  else (mX11_seekProofs_b9 x0 x2 (1 : Int32) h)
  else none

noncomputable def mX11_proofs (x0 : Nat) (x1 : Int32) (x2 : Int32) (h : Hp) : Option (Int32 × Hp) :=
  if (hpS h x0).1 = 12 then
  (mX11_isCount x0 x1 h).bind fun v1 =>
  if v1 = 0 then
  (some ((-1 : Int32), h))
  else ((mX11_growTrial x0 x1 h).bind fun h4 =>
  b2 (mX11_seekProofs x0 x2 (2147483647 : Int32) h4) fun v5 h6 =>
  some (v5, h6))
  else none

noncomputable def mX11_proof (x0 : Nat) (x1 : Int32) (x2 : Int32) (x3 : Int32) (x4 : Int32) (h : Hp) : Option (Int32 × Hp) :=
  if (hpS h x0).1 = 12 then
  (mX11_isCount x0 x1 h).bind fun v1 =>
  if v1 = 0 then
  (some ((-1 : Int32), h))
  else (if x3 < 0 then
  (some ((-1 : Int32), h))
  else (if x4 < 0 then
  (some ((-1 : Int32), h))
  else (if (1 : Int32) < x4 then
  (some ((-1 : Int32), h))
  else ((mX11_growTrial x0 x1 h).bind fun h4 =>
  b2 (mX11_seekProofs x0 x2 (x3 + (1 : Int32)) h4) fun v5 h6 =>
  if v5 = (x3 + (1 : Int32)) then
  (if x4 = 0 then
  ((gR 11 13 x0 h6).bind fun v9 =>
  (gI 3 2 v9 h6).bind fun v10 =>
  some (v10, h6))
  else ((gR 11 13 x0 h6).bind fun v7 =>
  (gI 3 3 v7 h6).bind fun v8 =>
  some (v8, h6)))
  else (some ((-1 : Int32), h6))))))
  else none

noncomputable def mX11_duel (x0 : Nat) (x1 : Int32) (x2 : Int32) (h : Hp) : Option (Int32 × Hp) :=
  if (hpS h x0).1 = 12 then
  (mX11_isCount x0 x1 h).bind fun v1 =>
  if v1 = 0 then
  (some ((-1 : Int32), h))
  else (if x2 < 0 then
  (some ((-1 : Int32), h))
  else (if (1 : Int32) < x2 then
  (some ((-1 : Int32), h))
  else ((mX11_growTrial x0 x1 h).bind fun h4 =>
  (gR 11 12 x0 h4).bind fun v5 =>
  (mX9_playOut v5 x2 h4).bind fun h7 =>
  (gR 11 12 x0 h7).bind fun v8 =>
  (mX9_value v8 h7).bind fun v9 =>
  some (v9, h7))))
  else none

noncomputable def mX11_turn (x0 : Nat) (x1 : Int32) (x2 : Int32) (x3 : Int32) (h : Hp) : Option (Int32 × Hp) :=
  if (hpS h x0).1 = 12 then
  (mX11_isCount x0 x1 h).bind fun v1 =>
  if v1 = 0 then
  (some ((-1 : Int32), h))
  else (if x2 < 0 then
  (some ((-1 : Int32), h))
  else (if (1 : Int32) < x2 then
  (some ((-1 : Int32), h))
  else (if x3 < 0 then
  (some ((-1 : Int32), h))
  else (if (1 : Int32) < x3 then
  (some ((-1 : Int32), h))
  else ((mX11_growTrial x0 x1 h).bind fun h4 =>
  (gR 11 12 x0 h4).bind fun v5 =>
  (mX9_playOut v5 x2 h4).bind fun h7 =>
  (gR 11 12 x0 h7).bind fun v8 =>
  (mX9_winningTurn v8 x2 h7).bind fun v9 =>
  if v9 < 0 then
  (some ((-2 : Int32), h7))
  else (if x3 = 0 then
  (some ((v9 >>> ((1 : Int32) &&& 31)), h7))
  else (some ((v9 &&& (1 : Int32)), h7))))))))
  else none

noncomputable def mX11_together_b62 (x0 : Nat) (x1 : Int32) (x2 : Int32) (h : Hp) : Option ((Int32 × Hp) ⊕ (Int32 × Hp)) :=
  some (.inl ((x2 + (1 : Int32)), h))
noncomputable def mX11_together_l24f (x0 : Nat) (x1 : Int32) (x2 : Int32) (h : Hp) : Option ((Int32 × Hp) ⊕ (Int32 × Hp)) :=
  (gR 11 5 x0 h).bind fun v5 =>
  (gI 5 2 v5 h).bind fun v6 =>
  if x2 < v6 then
  ((mX11_has x1 x2).bind fun v10 =>
  if v10 = 0 then
  (mX11_together_b62 x0 x1 x2 h)
  else ((gR 11 9 x0 h).bind fun v12 =>
  (gR 11 3 x0 h).bind fun v13 =>
  (mX11_kind x0 x2 h).bind fun v14 =>
  (mX1_wonBy v13 v14 h).bind fun v16 =>
  (mX10_and v12 v16 h).bind fun h19 =>
  mX11_together_b62 x0 x1 x2 h19))
  else (xt ((gR 11 9 x0 h).bind fun v7 =>
  (mX10_isEmpty v7 h).bind fun v8 =>
  if v8 = 0 then
  (some ((1 : Int32), h))
  else (some ((0 : Int32), h))))
noncomputable def mX11_together_l24 (x0 : Nat) (x1 : Int32) (x2 : Int32) (h : Hp) : Option (Int32 × Hp) :=
  lp (fun s : (Int32 × Hp) => mX11_together_l24f x0 x1 s.1 s.2) (x2, h)
noncomputable def mX11_together (x0 : Nat) (x1 : Int32) (h : Hp) : Option (Int32 × Hp) :=
  if (hpS h x0).1 = 12 then
  if x1 < 0 then
  (some ((-1 : Int32), h))
  else ((gR 11 5 x0 h).bind fun v1 =>
  (gI 5 2 v1 h).bind fun v2 =>
  if (x1 >>> (v2 &&& 31)) = 0 then
  ((mX11_remember x0 h).bind fun h4 =>
  mX11_together_l24 x0 x1 (0 : Int32) h4)
  else (some ((-1 : Int32), h)))
  else none

noncomputable def mX11_elect_b74 (x0 : Nat) (x1 : Int32) (x2 : Int32) (x3 : Int32) (h : Hp) : Option ((Int32 × Int32) ⊕ (Int32 × Hp)) :=
  some (.inl (x2, (x3 + (1 : Int32))))
noncomputable def mX11_elect_b71 (x0 : Nat) (x1 : Int32) (x3 : Int32) (x4 : Int32) (h : Hp) : Option ((Int32 × Int32) ⊕ (Int32 × Hp)) :=
  mX11_elect_b74 x0 x1 x4 x3 h
noncomputable def mX11_elect_l19f (x0 : Nat) (x1 : Int32) (h : Hp) (x2 : Int32) (x3 : Int32) : Option ((Int32 × Int32) ⊕ (Int32 × Hp)) :=
  (gR 11 14 x0 h).bind fun v3 =>
  (gI 6 5 v3 h).bind fun v4 =>
  if x3 < v4 then
  ((gR 11 14 x0 h).bind fun v7 =>
  (gR 6 0 v7 h).bind fun v8 =>
  (mX11_at v8 x3 h).bind fun v9 =>
  (mJ6_bitCount_0f7a4 v9).bind fun v11 =>
  (mJ6_bitCount_0f7a4 x2).bind fun v13 =>
  if 0 < (v11 - v13) then
  (mX11_elect_b71 x0 x1 x3 v9 h)
  else (if (v11 - v13) = 0 then
  (if v9 < x2 then
  (mX11_elect_b71 x0 x1 x3 v9 h)
  else (mX11_elect_b74 x0 x1 x2 x3 h))
  else (mX11_elect_b74 x0 x1 x2 x3 h)))
  else (xt (if x1 = 0 then
  ((mJ6_bitCount_0f7a4 x2).bind fun v5 =>
  some (v5, h))
  else (some (x2, h))))
noncomputable def mX11_elect_l19 (x0 : Nat) (x1 : Int32) (x2 : Int32) (x3 : Int32) (h : Hp) : Option (Int32 × Hp) :=
  lp (fun s : (Int32 × Int32) => mX11_elect_l19f x0 x1 h s.1 s.2) (x2, x3)
noncomputable def mX11_elect (x0 : Nat) (x1 : Int32) (h : Hp) : Option (Int32 × Hp) :=
  if (hpS h x0).1 = 12 then
  if x1 < 0 then
  (some ((-1 : Int32), h))
  else (if (1 : Int32) < x1 then
  (some ((-1 : Int32), h))
  else ((mX11_survey x0 h).bind fun h2 =>
  mX11_elect_l19 x0 x1 (0 : Int32) (0 : Int32) h2))
  else none

noncomputable def mX11_ask (x0 : Nat) (h : Hp) : Option (Int32 × Hp) :=
  if (hpS h x0).1 = 12 then
  (gR 11 1 x0 h).bind fun v1 =>
  (gR 11 0 x0 h).bind fun v2 =>
  (mX8_split v1 v2 h).bind fun h4 =>
  (gR 11 0 x0 h4).bind fun v5 =>
  (sI 7 1 v5 (0 : Int32) h4).bind fun h6 =>
  (gR 11 3 x0 h6).bind fun v7 =>
  (gI 1 13 v7 h6).bind fun v8 =>
  (gR 11 7 x0 h6).bind fun v9 =>
  (gR 11 3 x0 h6).bind fun v10 =>
  b2 (mX2_readQuestion v9 v10 h6) fun v11 h12 =>
  (gR 11 3 x0 h12).bind fun v13 =>
  (gI 1 13 v13 h12).bind fun v14 =>
  (gR 11 3 x0 h12).bind fun v15 =>
  (sI 1 13 v15 v8 h12).bind fun h16 =>
  if v11 = 0 then
  (some ((-1 : Int32), h16))
  else ((mX11_remember x0 h16).bind fun h18 =>
  (gR 11 2 x0 h18).bind fun v19 =>
  (gR 11 3 x0 h18).bind fun v20 =>
  (gR 1 12 v20 h18).bind fun v21 =>
  (gR 11 11 x0 h18).bind fun v22 =>
  (mX4_tabulate v19 v21 v8 v14 v22 h18).bind fun h24 =>
  (gR 11 9 x0 h24).bind fun v25 =>
  (gR 11 11 x0 h24).bind fun v26 =>
  (mX10_howIn v25 v26 h24).bind fun v27 =>
  (gR 11 3 x0 h24).bind fun v29 =>
  (gR 11 9 x0 h24).bind fun v30 =>
  (mX1_weigh v29 v30 h24).bind fun v31 =>
  (gR 11 9 x0 h24).bind fun v33 =>
  (gR 11 11 x0 h24).bind fun v34 =>
  (mX10_and v33 v34 h24).bind fun h36 =>
  (gR 11 3 x0 h36).bind fun v37 =>
  (gR 11 9 x0 h36).bind fun v38 =>
  (mX1_weigh v37 v38 h36).bind fun v39 =>
  (mX11_inLowestTerms v39 v31 (0 : Int32)).bind fun v41 =>
  (sL 11 16 x0 v41 h36).bind fun h43 =>
  (mX11_inLowestTerms v39 v31 (1 : Int32)).bind fun v44 =>
  (sL 11 17 x0 v44 h43).bind fun h46 =>
  some (v27, h46))
  else none

noncomputable def mX11_asked_b35 (t0 : Int64) (h : Hp) : Option Int32 :=
  some t0.toInt32
noncomputable def mX11_asked (x0 : Nat) (x1 : Int32) (h : Hp) : Option Int32 :=
  if (hpS h x0).1 = 12 then
  if x1 < 0 then
  (some (-1 : Int32))
  else (if (1 : Int32) < x1 then
  (some (-1 : Int32))
  else ((gL 11 17 x0 h).bind fun v1 =>
  if (lg_cmp v1 (0 : Int64)) = 0 then
  (some (-1 : Int32))
  else (if x1 = 0 then
  ((gL 11 16 x0 h).bind fun v3 =>
  mX11_asked_b35 v3 h)
  else ((gL 11 17 x0 h).bind fun v2 =>
  mX11_asked_b35 v2 h))))
  else none

noncomputable def mX11_count (x0 : Nat) (x1 : Int32) (h : Hp) : Option (Int32 × Hp) :=
  if (hpS h x0).1 = 12 then
  tsw x1 (0) [(gR 11 3 x0 h).bind fun v1 =>
  (gI 1 0 v1 h).bind fun v2 =>
  some (v2, h),
  (gR 11 3 x0 h).bind fun v3 =>
  (gI 1 1 v3 h).bind fun v4 =>
  some (v4, h),
  (gR 11 5 x0 h).bind fun v5 =>
  (gI 5 2 v5 h).bind fun v6 =>
  some (v6, h),
  (mX11_remember x0 h).bind fun h8 =>
  b2 (mX11_standing x0 h8) fun v9 h10 =>
  (mJ6_bitCount_0f7a4 v9).bind fun v11 =>
  some (v11, h10),
  (gR 11 5 x0 h).bind fun v13 =>
  (gI 5 0 v13 h).bind fun v14 =>
  some (v14, h),
  (gR 11 5 x0 h).bind fun v15 =>
  (gI 5 1 v15 h).bind fun v16 =>
  if v16 = 0 then
  (some ((0 : Int32), h))
  else (some ((1 : Int32), h)),
  (gR 11 5 x0 h).bind fun v17 =>
  (mX5_known v17 h).bind fun v18 =>
  (mJ6_bitCount_0f7a4 v18).bind fun v20 =>
  some (v20, h),
  (gR 11 8 x0 h).bind fun v22 =>
  (gI 0 4 v22 h).bind fun v23 =>
  some (v23, h),
  (gR 11 0 x0 h).bind fun v24 =>
  (gI 7 1 v24 h).bind fun v25 =>
  some (v25, h),
  (gR 11 3 x0 h).bind fun v26 =>
  (gI 1 5 v26 h).bind fun v27 =>
  some (v27, h)] (some ((-1 : Int32), h))
  else none

noncomputable def mX13_init (x0 : Nat) (x1 : Int32) (x2 : Int32) (x3 : Nat) (h : Hp) : Option Hp :=
  (sI 13 0 x0 x1 h).bind fun h1 =>
  (sI 13 1 x0 x2 h1).bind fun h2 =>
  (sR 13 2 x0 x3 h2).bind fun h3 =>
  some h3

abbrev GTX13_holds : Type := (Nat → Int32 → Hp → Option (Int32 × Hp))
noncomputable def mX13_holds_b67 (g : GTX13_holds) (x0 : Nat) (x1 : Int32) (x3 : Nat) (x4 : Int32) (x5 : Int32) (t0 : Int32) (t1 : Int32) (h : Hp) : Option ((Int32 × Int32 × Hp) ⊕ (Int32 × Hp)) :=
  some (.inl ((t0 + t1), (x5 + (1 : Int32)), h))
noncomputable def mX13_holds_l39f (g : GTX13_holds) (x0 : Nat) (x1 : Int32) (x3 : Nat) (x4 : Int32) (x2 : Int32) (x5 : Int32) (h : Hp) : Option ((Int32 × Int32 × Hp) ⊕ (Int32 × Hp)) :=
  if x5 < x4 then
  ((ldR 13 x3 x5 h).bind fun v10 =>
  b2 (g v10 x1 h) fun v11 h12 =>
  if v11 = 0 then
  (mX13_holds_b67 g x0 x1 x3 x4 x5 x2 (0 : Int32) h12)
  else (mX13_holds_b67 g x0 x1 x3 x4 x5 x2 (1 : Int32) h12))
  else (xt ((gI 13 0 x0 h).bind fun v4 =>
  if v4 = (1 : Int32) then
  (if x2 = 0 then
  (some ((1 : Int32), h))
  else (some ((0 : Int32), h)))
  else ((gI 13 0 x0 h).bind fun v5 =>
  if v5 = (2 : Int32) then
  ((gR 13 2 x0 h).bind fun v8 =>
  (aLen v8 h).bind fun v9 =>
  if x2 = v9 then
  (some ((1 : Int32), h))
  else (some ((0 : Int32), h)))
  else ((gI 13 0 x0 h).bind fun v6 =>
  if v6 = (3 : Int32) then
  (if 0 < x2 then
  (some ((1 : Int32), h))
  else (some ((0 : Int32), h)))
  else ((gI 13 1 x0 h).bind fun v7 =>
  if x2 < v7 then
  (some ((0 : Int32), h))
  else (some ((1 : Int32), h)))))))
noncomputable def mX13_holds_l39 (g : GTX13_holds) (x0 : Nat) (x1 : Int32) (x2 : Int32) (x3 : Nat) (x4 : Int32) (x5 : Int32) (h : Hp) : Option (Int32 × Hp) :=
  lp (fun s : (Int32 × Int32 × Hp) => mX13_holds_l39f g x0 x1 x3 x4 s.1 s.2.1 s.2.2) (x2, x5, h)
noncomputable def mX13_holds_F (g : GTX13_holds) (x0 : Nat) (x1 : Int32) (h : Hp) : Option (Int32 × Hp) :=
  if (hpS h x0).1 = 14 then
  (gI 13 0 x0 h).bind fun v1 =>
  if v1 = 0 then
  ((gI 13 1 x0 h).bind fun v13 =>
  if ((x1 >>> (v13 &&& 31)) &&& (1 : Int32)) = (1 : Int32) then
  (some ((1 : Int32), h))
  else (some ((0 : Int32), h)))
  else ((gR 13 2 x0 h).bind fun v2 =>
  (aLen v2 h).bind fun v3 =>
  mX13_holds_l39 g x0 x1 (0 : Int32) v2 v3 (0 : Int32) h)
  else none
noncomputable def mg_X13_holds : Nat → GTX13_holds
  | 0 => (fun _ _ _ => none)
  | n + 1 => (mX13_holds_F (mg_X13_holds n))
noncomputable def mX13_holds (n : Nat) (x0 : Nat) (x1 : Int32) (h : Hp) : Option (Int32 × Hp) := (mg_X13_holds n) x0 x1 h

noncomputable def mJ5_init_d00df (x0 : Nat) (x1 : Int32) (h : Hp) : Option Hp :=
  if (1 : Int32) = 0 then
  (none)
  else (b2 (newV 53 x1 h) fun v2 h1 =>
  (sR 16 0 x0 v2 h1).bind fun h3 =>
  (sB 16 1 x0 (0 : Int32) h3).bind fun h4 =>
  some h4)

noncomputable def mJ4_init_da8c8 (x0 : Nat) (h : Hp) : Option Hp :=
  (mJ5_init_d00df x0 (16 : Int32) h).bind fun h2 =>
  some h2

noncomputable def mJ8_newLength_cabcc_b21 (x0 : Int32) (x1 : Int32) : Option Int32 :=
  none
noncomputable def mJ8_newLength_cabcc (x0 : Int32) (x1 : Int32) (x2 : Int32) : Option Int32 :=
  if (0 : Int32) < (x0 + (mmax x1 x2)) then
  (if (2147483639 : Int32) < (x0 + (mmax x1 x2)) then
  (mJ8_newLength_cabcc_b21 x0 x1)
  else (some (x0 + (mmax x1 x2))))
  else (mJ8_newLength_cabcc_b21 x0 x1)

noncomputable def mJ5_newCapacity_0f7a4 (x0 : Nat) (x1 : Int32) (h : Hp) : Option Int32 :=
  if (hpS h x0).1 = 17 then
  (gR 16 0 x0 h).bind fun v1 =>
  (bLn v1 h).bind fun v2 =>
  (gI 16 1 x0 h).bind fun v3 =>
  (gI 16 1 x0 h).bind fun v4 =>
  (mJ8_newLength_cabcc v2 ((x1 <<< (v3 &&& 31)) - v2) (v2 + ((2 : Int32) <<< (v4 &&& 31)))).bind fun v5 =>
  if v5 = (2147483647 : Int32) then
  (none)
  else ((gI 16 1 x0 h).bind fun v7 =>
  some (v5 >>> (v7 &&& 31)))
  else none

noncomputable def mJ7_copyOf_9075b (x0 : Nat) (x1 : Int32) (h : Hp) : Option (Nat × Hp) :=
  (bLn x0 h).bind fun v1 =>
  if x1 = v1 then
  (b2 (clB x0 h) fun v7 h6 =>
  if (hpS h6 v7).1 = 53 then
  some (v7, h6)
  else none)
  else (b2 (newV 53 x1 h) fun v3 h2 =>
  (bLn x0 h2).bind fun v4 =>
  (cpB x0 (0 : Int32) v3 (0 : Int32) (mmin v4 x1) h2).bind fun h5 =>
  some (v3, h5))

noncomputable def mJ5_ensureCapacityInternal_d00df (x0 : Nat) (x1 : Int32) (h : Hp) : Option Hp :=
  if (hpS h x0).1 = 17 then
  (gR 16 0 x0 h).bind fun v1 =>
  (bLn v1 h).bind fun v2 =>
  (gI 16 1 x0 h).bind fun v3 =>
  if 0 < (x1 - (v2 >>> (v3 &&& 31))) then
  ((gR 16 0 x0 h).bind fun v4 =>
  (mJ5_newCapacity_0f7a4 x0 x1 h).bind fun v5 =>
  (gI 16 1 x0 h).bind fun v7 =>
  b2 (mJ7_copyOf_9075b v4 (v5 <<< (v7 &&& 31)) h) fun v8 h9 =>
  (sR 16 0 x0 v8 h9).bind fun h10 =>
  some h10)
  else (some h)
  else none

noncomputable def mJ5_inflateIfNeededFor_a7421 (x0 : Nat) (x1 : Nat) (h : Hp) : Option Unit :=
  if (hpS h x0).1 = 17 then
  if (1 : Int32) = 0 then
  (some ())
  else ((gI 16 1 x0 h).bind fun v1 =>
  (mJ0_coder_7d493 x1 h).bind fun v2 =>
  if v1 = v2 then
  (some ())
  else (none))
  else none

noncomputable def mJ0_getBytes_840e7 (x0 : Nat) (x1 : Nat) (x2 : Int32) (x3 : Int32) (h : Hp) : Option Hp :=
  if (10 ≤ x0 ∧ x0 < 34) ∨ (hpS h x0).1 = 18 then
  (mJ0_coder_7d493 x0 h).bind fun v1 =>
  if v1 = x3 then
  ((sV x0 h).bind fun v6 =>
  (sV x0 h).bind fun v7 =>
  (bLn v7 h).bind fun v8 =>
  (cpB v6 (0 : Int32) x1 (x2 <<< (x3 &&& 31)) v8 h).bind fun h9 =>
  some h9)
  else ((sV x0 h).bind fun v3 =>
  (sV x0 h).bind fun v4 =>
  (bLn v4 h).bind fun v5 =>
  none)
  else none

noncomputable def mJ5_putStringAt_47b60 (x0 : Nat) (x1 : Int32) (x2 : Nat) (h : Hp) : Option Hp :=
  if (hpS h x0).1 = 17 then
  (mJ5_inflateIfNeededFor_a7421 x0 x2 h).bind fun _ =>
  (gR 16 0 x0 h).bind fun v3 =>
  (gI 16 1 x0 h).bind fun v4 =>
  (mJ0_getBytes_840e7 x2 v3 x1 v4 h).bind fun h6 =>
  some h6
  else none

noncomputable def mJ5_append_cf1ce (x0 : Nat) (x1 : Nat) (h : Hp) : Option (Nat × Hp) :=
  if (hpS h x0).1 = 17 then
  if x1 ≠ 0 then
  ((mJ0_length_8abf5 x1 h).bind fun v1 =>
  (gI 16 3 x0 h).bind fun v3 =>
  (mJ5_ensureCapacityInternal_d00df x0 (v3 + v1) h).bind fun h5 =>
  (gI 16 3 x0 h5).bind fun v6 =>
  (mJ5_putStringAt_47b60 x0 v6 x1 h5).bind fun h8 =>
  (gI 16 3 x0 h8).bind fun v9 =>
  (sI 16 3 x0 (v9 + v1) h8).bind fun h10 =>
  some (x0, h10))
  else (none)
  else none

noncomputable def mJ4_append_15ec4 (x0 : Nat) (x1 : Nat) (h : Hp) : Option (Nat × Hp) :=
  if (hpS h x0).1 = 17 then
  b2 (mJ5_append_cf1ce x0 x1 h) fun v1 h2 =>
  some (x0, h2)
  else none

noncomputable def mJ5_isLatin1_aae02 (x0 : Nat) (h : Hp) : Option Int32 :=
  if (hpS h x0).1 = 17 then
  if (1 : Int32) = 0 then
  (some (0 : Int32))
  else ((gI 16 1 x0 h).bind fun v1 =>
  if v1 = 0 then
  (some (1 : Int32))
  else (some (0 : Int32)))
  else none

noncomputable def mJ1_canEncode_fc78d (x0 : Int32) : Option Int32 :=
  if (255 : Int32) < x0 then
  (some (0 : Int32))
  else (some (1 : Int32))

noncomputable def mJ5_append_3fe6f_b45 (x0 : Nat) (x1 : Int32) (h : Hp) : Option (Nat × Hp) :=
  (mJ5_isLatin1_aae02 x0 h).bind fun v6 =>
  if v6 = 0 then
  ((gR 16 0 x0 h).bind fun v8 =>
  (gI 16 3 x0 h).bind fun v9 =>
  (sI 16 3 x0 (v9 + (1 : Int32)) h).bind fun h10 =>
  none)
  else (none)
noncomputable def mJ5_append_3fe6f (x0 : Nat) (x1 : Int32) (h : Hp) : Option (Nat × Hp) :=
  if (hpS h x0).1 = 17 then
  (gI 16 3 x0 h).bind fun v1 =>
  (mJ5_ensureCapacityInternal_d00df x0 (v1 + (1 : Int32)) h).bind fun h3 =>
  (mJ5_isLatin1_aae02 x0 h3).bind fun v4 =>
  if v4 = 0 then
  (mJ5_append_3fe6f_b45 x0 x1 h3)
  else ((mJ1_canEncode_fc78d x1).bind fun v11 =>
  if v11 = 0 then
  (mJ5_append_3fe6f_b45 x0 x1 h3)
  else ((gR 16 0 x0 h3).bind fun v13 =>
  (gI 16 3 x0 h3).bind fun v14 =>
  (sI 16 3 x0 (v14 + (1 : Int32)) h3).bind fun h15 =>
  (stB v13 v14 x1.toInt8.toInt32 h15).bind fun h16 =>
  some (x0, h16)))
  else none

noncomputable def mJ4_append_cf468 (x0 : Nat) (x1 : Int32) (h : Hp) : Option (Nat × Hp) :=
  if (hpS h x0).1 = 17 then
  b2 (mJ5_append_3fe6f x0 x1 h) fun v1 h2 =>
  some (x0, h2)
  else none

noncomputable def mJ5_getValue_6d5f1 (x0 : Nat) (h : Hp) : Option Nat :=
  if (hpS h x0).1 = 17 then
  (gR 16 0 x0 h).bind fun v1 =>
  some v1
  else none

noncomputable def mJ5_length_8abf5 (x0 : Nat) (h : Hp) : Option Int32 :=
  if (hpS h x0).1 = 17 then
  (gI 16 3 x0 h).bind fun v1 =>
  some v1
  else none

noncomputable def mJ4_length_8abf5 (x0 : Nat) (h : Hp) : Option Int32 :=
  if (hpS h x0).1 = 17 then
  (mJ5_length_8abf5 x0 h).bind fun v1 =>
  some v1
  else none

noncomputable def mJ7_checkLength_df160 (x0 : Int32) (x1 : Int32) : Option Unit :=
  if x1 < x0 then
  (none)
  else (some ())

noncomputable def mJ7_copyOfRangeByte_39247 (x0 : Nat) (x1 : Int32) (x2 : Int32) (h : Hp) : Option (Nat × Hp) :=
  (mJ7_checkLength_df160 x1 x2).bind fun _ =>
  b2 (newV 53 (x2 - x1) h) fun v4 h3 =>
  (bLn x0 h3).bind fun v5 =>
  (cpB x0 x1 v4 (0 : Int32) (mmin (v5 - x1) (x2 - x1)) h3).bind fun h6 =>
  some (v4, h6)

noncomputable def mJ7_copyOfRange_39247_b10 (x0 : Nat) (x1 : Int32) (x2 : Int32) (h : Hp) : Option (Nat × Hp) :=
  b2 (mJ7_copyOfRangeByte_39247 x0 x1 x2 h) fun v1 h2 =>
  some (v1, h2)
noncomputable def mJ7_copyOfRange_39247 (x0 : Nat) (x1 : Int32) (x2 : Int32) (h : Hp) : Option (Nat × Hp) :=
  if x1 = 0 then
  ((bLn x0 h).bind fun v3 =>
  if x2 = v3 then
  (b2 (clB x0 h) fun v5 h4 =>
  if (hpS h4 v5).1 = 53 then
  some (v5, h4)
  else none)
  else (mJ7_copyOfRange_39247_b10 x0 x1 x2 h))
  else (mJ7_copyOfRange_39247_b10 x0 x1 x2 h)

noncomputable def mJ0_init_db425_b79 (x0 : Nat) (x3 : Nat) (x4 : Int32) (h : Hp) : Option Hp :=
  (sB 17 1 x0 (1 : Int32) h).bind fun h7 =>
  b2 (mJ7_copyOfRange_39247 x3 (0 : Int32) (x4 <<< ((1 : Int32) &&& 31)) h7) fun v8 h9 =>
  (sR 17 0 x0 v8 h9).bind fun h10 =>
  some h10
noncomputable def mJ0_init_db425 (x0 : Nat) (x1 : Nat) (x2 : Nat) (h : Hp) : Option Hp :=
  (mJ5_getValue_6d5f1 x1 h).bind fun v1 =>
  (mJ4_length_8abf5 x1 h).bind fun v3 =>
  (mJ5_isLatin1_aae02 x1 h).bind fun v5 =>
  if v5 = 0 then
  (if (1 : Int32) = 0 then
  (mJ0_init_db425_b79 x0 v1 v3 h)
  else ((gI 16 2 x1 h).bind fun v11 =>
  if v11 = 0 then
  (mJ0_init_db425_b79 x0 v1 v3 h)
  else (none)))
  else ((sB 17 1 x0 (0 : Int32) h).bind fun h12 =>
  b2 (mJ7_copyOfRange_39247 v1 (0 : Int32) v3 h12) fun v13 h14 =>
  (sR 17 0 x0 v13 h14).bind fun h15 =>
  some h15)

noncomputable def mJ0_init_81219 (x0 : Nat) (x1 : Nat) (h : Hp) : Option Hp :=
  (mJ0_init_db425 x0 x1 0 h).bind fun h2 =>
  some h2

noncomputable def mJ4_toString_0e30d (x0 : Nat) (h : Hp) : Option (Nat × Hp) :=
  if (hpS h x0).1 = 17 then
  b2 (newO 17 4 h) fun v2 h1 =>
  (mJ0_init_81219 v2 x0 h1).bind fun h4 =>
  some (v2, h4)
  else none

noncomputable def mJ6_stringSize_0f7a4_l16f (x0 : Int32) (x1 : Int32) (x2 : Int32) (x3 : Int32) : Option ((Int32 × Int32) ⊕ Int32) :=
  if x3 < (10 : Int32) then
  (if x2 < x0 then
  (xt (some (x3 + x1)))
  else (some (.inl (((10 : Int32) * x2), (x3 + (1 : Int32))))))
  else (xt (some ((10 : Int32) + x1)))
noncomputable def mJ6_stringSize_0f7a4_l16 (x0 : Int32) (x1 : Int32) (x2 : Int32) (x3 : Int32) : Option Int32 :=
  lp (fun s : (Int32 × Int32) => mJ6_stringSize_0f7a4_l16f x0 x1 s.1 s.2) (x2, x3)
noncomputable def mJ6_stringSize_0f7a4_b11 (x0 : Int32) (x1 : Int32) : Option Int32 :=
  mJ6_stringSize_0f7a4_l16 x0 x1 (-10 : Int32) (1 : Int32)
noncomputable def mJ6_stringSize_0f7a4 (x0 : Int32) : Option Int32 :=
  if x0 < 0 then
  (mJ6_stringSize_0f7a4_b11 x0 (1 : Int32))
  else (mJ6_stringSize_0f7a4_b11 (-x0) (0 : Int32))

noncomputable def mJ6_getChars_ba4f3_b104 (x2 : Nat) (x5 : Int32) (x6 : Int32) (h : Hp) : Option (Int32 × Hp) :=
  if x6 = 0 then
  (some (x5, h))
  else ((stB x2 (x5 + (-1 : Int32)) (45 : Int32) h).bind fun h3 =>
  some ((x5 + (-1 : Int32)), h3))
noncomputable def mJ6_getChars_ba4f3_l22f (x2 : Nat) (x6 : Int32) (x0 : Int32) (x5 : Int32) (h : Hp) : Option ((Int32 × Int32 × Hp) ⊕ (Int32 × Hp)) :=
  if (-100 : Int32) < x0 then
  (xt ((bLd 6 (-x0) h).bind fun v1 =>
  (stB x2 (x5 + (-1 : Int32)) v1 h).bind fun h2 =>
  if x0 < (-9 : Int32) then
  ((bLd 5 (-x0) h2).bind fun v4 =>
  (stB x2 ((x5 + (-1 : Int32)) + (-1 : Int32)) v4 h2).bind fun h5 =>
  mJ6_getChars_ba4f3_b104 x2 ((x5 + (-1 : Int32)) + (-1 : Int32)) x6 h5)
  else (mJ6_getChars_ba4f3_b104 x2 (x5 + (-1 : Int32)) x6 h2)))
  else ((nz (100 : Int32)).bind fun _ =>
  (bLd 6 (((x0 / (100 : Int32)) * (100 : Int32)) - x0) h).bind fun v6 =>
  (stB x2 (x5 + (-1 : Int32)) v6 h).bind fun h7 =>
  (bLd 5 (((x0 / (100 : Int32)) * (100 : Int32)) - x0) h7).bind fun v8 =>
  (stB x2 ((x5 + (-1 : Int32)) + (-1 : Int32)) v8 h7).bind fun h9 =>
  some (.inl ((x0 / (100 : Int32)), ((x5 + (-1 : Int32)) + (-1 : Int32)), h9)))
noncomputable def mJ6_getChars_ba4f3_l22 (x0 : Int32) (x2 : Nat) (x5 : Int32) (x6 : Int32) (h : Hp) : Option (Int32 × Hp) :=
  lp (fun s : (Int32 × Int32 × Hp) => mJ6_getChars_ba4f3_l22f x2 x6 s.1 s.2.1 s.2.2) (x0, x5, h)
noncomputable def mJ6_getChars_ba4f3_b12 (x0 : Int32) (x2 : Nat) (x5 : Int32) (t0 : Int32) (h : Hp) : Option (Int32 × Hp) :=
  if t0 = 0 then
  (mJ6_getChars_ba4f3_l22 (-x0) x2 x5 t0 h)
  else (mJ6_getChars_ba4f3_l22 x0 x2 x5 t0 h)
noncomputable def mJ6_getChars_ba4f3 (x0 : Int32) (x1 : Int32) (x2 : Nat) (h : Hp) : Option (Int32 × Hp) :=
  if x0 < 0 then
  (mJ6_getChars_ba4f3_b12 x0 x2 x1 (1 : Int32) h)
  else (mJ6_getChars_ba4f3_b12 x0 x2 x1 (0 : Int32) h)

noncomputable def mJ5_append_c97b9 (x0 : Nat) (x1 : Int32) (h : Hp) : Option (Nat × Hp) :=
  if (hpS h x0).1 = 17 then
  (gI 16 3 x0 h).bind fun v1 =>
  (mJ6_stringSize_0f7a4 x1).bind fun v2 =>
  (mJ5_ensureCapacityInternal_d00df x0 (v1 + v2) h).bind fun h5 =>
  (mJ5_isLatin1_aae02 x0 h5).bind fun v6 =>
  if v6 = 0 then
  ((gR 16 0 x0 h5).bind fun v8 =>
  none)
  else ((gR 16 0 x0 h5).bind fun v9 =>
  b2 (mJ6_getChars_ba4f3 x1 (v1 + v2) v9 h5) fun v10 h11 =>
  (sI 16 3 x0 (v1 + v2) h11).bind fun h12 =>
  some (x0, h12))
  else none

noncomputable def mJ4_append_bf812 (x0 : Nat) (x1 : Int32) (h : Hp) : Option (Nat × Hp) :=
  if (hpS h x0).1 = 17 then
  b2 (mJ5_append_c97b9 x0 x1 h) fun v1 h2 =>
  some (x0, h2)
  else none

noncomputable def mJ4_append_cf1ce (x0 : Nat) (x1 : Nat) (h : Hp) : Option (Nat × Hp) :=
  if (hpS h x0).1 = 17 then
  b2 (mJ4_append_15ec4 x0 x1 h) fun v1 h2 =>
  some (v1, h2)
  else none

noncomputable def mJ5_init_a7421_b24 (x0 : Nat) (x1 : Nat) (t0 : Int32) (h : Hp) : Option Hp :=
  (mJ0_coder_7d493 x1 h).bind fun v3 =>
  (sB 16 1 x0 v3 h).bind fun h5 =>
  if v3 = 0 then
  (b2 (newV 53 t0 h5) fun v7 h6 =>
  (sR 16 0 x0 v7 h6).bind fun h8 =>
  b2 (mJ4_append_cf1ce x0 x1 h8) fun v9 h10 =>
  some h10)
  else (none)
noncomputable def mJ5_init_a7421 (x0 : Nat) (x1 : Nat) (h : Hp) : Option Hp :=
  (mJ0_length_8abf5 x1 h).bind fun v1 =>
  if v1 < (2147483631 : Int32) then
  (mJ5_init_a7421_b24 x0 x1 (v1 + (16 : Int32)) h)
  else (mJ5_init_a7421_b24 x0 x1 (2147483647 : Int32) h)

noncomputable def mJ4_init_a7421 (x0 : Nat) (x1 : Nat) (h : Hp) : Option Hp :=
  (mJ5_init_a7421 x0 x1 h).bind fun h2 =>
  some h2

abbrev GTX13_all : Type := (Nat → Hp → Option (Nat × Hp)) × (Nat → Hp → Option (Nat × Hp))
noncomputable def mX13_all_b220 (g : GTX13_all) (t0 : Nat) (t1 : Nat) (h : Hp) : Option (Nat × Hp) :=
  b2 (mJ4_append_15ec4 t0 t1 h) fun v11 h12 =>
  b2 (mJ4_toString_0e30d v11 h12) fun v13 h14 =>
  some (v13, h14)
noncomputable def mX13_all_b194 (g : GTX13_all) (x0 : Nat) (x1 : Nat) (x2 : Int32) (t0 : Nat) (t1 : Nat) (h : Hp) : Option ((Int32 × Hp) ⊕ (Nat × Hp)) :=
  b2 (mJ4_append_15ec4 t0 t1 h) fun v24 h25 =>
  some (.inl ((x2 + (1 : Int32)), h25))
noncomputable def mX13_all_b162 (g : GTX13_all) (x0 : Nat) (x1 : Nat) (x2 : Int32) (t0 : Nat) (t1 : Nat) (h : Hp) : Option ((Int32 × Hp) ⊕ (Nat × Hp)) :=
  b2 (mJ4_append_15ec4 t0 t1 h) fun v17 h18 =>
  (gI 13 0 x0 h18).bind fun v19 =>
  if v19 = (4 : Int32) then
  ((gR 13 2 x0 h18).bind fun v26 =>
  (ldR 13 v26 x2 h18).bind fun v27 =>
  b2 (g.1 v27 h18) fun v28 h29 =>
  mX13_all_b194 g x0 x1 x2 v17 v28 h29)
  else ((gR 13 2 x0 h18).bind fun v20 =>
  (ldR 13 v20 x2 h18).bind fun v21 =>
  b2 (g.2 v21 h18) fun v22 h23 =>
  mX13_all_b194 g x0 x1 x2 v17 v22 h23)
noncomputable def mX13_all_l115f (g : GTX13_all) (x0 : Nat) (x1 : Nat) (x2 : Int32) (h : Hp) : Option ((Int32 × Hp) ⊕ (Nat × Hp)) :=
  (gR 13 2 x0 h).bind fun v8 =>
  (aLen v8 h).bind fun v9 =>
  if x2 < v9 then
  (if x2 = 0 then
  (mX13_all_b162 g x0 x1 x2 x1 14 h)
  else ((gI 13 0 x0 h).bind fun v15 =>
  if v15 = (2 : Int32) then
  (mX13_all_b162 g x0 x1 x2 x1 21 h)
  else ((gI 13 0 x0 h).bind fun v16 =>
  if v16 = (3 : Int32) then
  (mX13_all_b162 g x0 x1 x2 x1 22 h)
  else (mX13_all_b162 g x0 x1 x2 x1 23 h))))
  else (xt ((gI 13 0 x0 h).bind fun v10 =>
  if v10 = (4 : Int32) then
  (mX13_all_b220 g x1 19 h)
  else (mX13_all_b220 g x1 14 h)))
noncomputable def mX13_all_l115 (g : GTX13_all) (x0 : Nat) (x1 : Nat) (x2 : Int32) (h : Hp) : Option (Nat × Hp) :=
  lp (fun s : (Int32 × Hp) => mX13_all_l115f g x0 x1 s.1 s.2) (x2, h)
noncomputable def mX13_all_b109 (g : GTX13_all) (x0 : Nat) (t0 : Nat) (t1 : Nat) (t2 : Nat) (h : Hp) : Option (Nat × Hp) :=
  if t1 = 0 then none else
  (mJ4_init_a7421 t1 t2 h).bind fun h7 =>
  mX13_all_l115 g x0 t0 (0 : Int32) h7
noncomputable def mX13_all_F (g : GTX13_all) (x0 : Nat) (h : Hp) : Option (Nat × Hp) :=
  if (hpS h x0).1 = 14 then
  (gI 13 0 x0 h).bind fun v1 =>
  if v1 = 0 then
  (b2 (newO 16 4 h) fun v56 h55 =>
  (mJ4_init_da8c8 v56 h55).bind fun h58 =>
  b2 (mJ4_append_15ec4 v56 14 h58) fun v59 h60 =>
  (gI 13 1 x0 h60).bind fun v61 =>
  b2 (mJ4_append_cf468 v59 (i2cV ((97 : Int32) + v61)) h60) fun v62 h63 =>
  b2 (mJ4_toString_0e30d v62 h63) fun v64 h65 =>
  some (v64, h65))
  else ((gI 13 0 x0 h).bind fun v2 =>
  if v2 = (1 : Int32) then
  (b2 (newO 16 4 h) fun v42 h41 =>
  (mJ4_init_da8c8 v42 h41).bind fun h44 =>
  b2 (mJ4_append_15ec4 v42 17 h44) fun v45 h46 =>
  (gR 13 2 x0 h46).bind fun v47 =>
  (ldR 13 v47 (0 : Int32) h46).bind fun v48 =>
  b2 (g.2 v48 h46) fun v49 h50 =>
  b2 (mJ4_append_15ec4 v45 v49 h50) fun v51 h52 =>
  b2 (mJ4_toString_0e30d v51 h52) fun v53 h54 =>
  some (v53, h54))
  else (b2 (newO 16 4 h) fun v4 h3 =>
  (gI 13 0 x0 h3).bind fun v5 =>
  if v5 = (4 : Int32) then
  (b2 (newO 16 4 h3) fun v31 h30 =>
  (mJ4_init_da8c8 v31 h30).bind fun h33 =>
  (gI 13 1 x0 h33).bind fun v34 =>
  b2 (mJ4_append_bf812 v31 v34 h33) fun v35 h36 =>
  b2 (mJ4_append_15ec4 v35 20 h36) fun v37 h38 =>
  b2 (mJ4_toString_0e30d v37 h38) fun v39 h40 =>
  mX13_all_b109 g x0 v4 v4 v39 h40)
  else (mX13_all_b109 g x0 v4 v4 14 h3)))
  else none
noncomputable def mX13_one_b15 (g : GTX13_all) (x0 : Nat) (h : Hp) : Option (Nat × Hp) :=
  b2 (g.1 x0 h) fun v2 h3 =>
  some (v2, h3)
noncomputable def mX13_one_F (g : GTX13_all) (x0 : Nat) (h : Hp) : Option (Nat × Hp) :=
  if (hpS h x0).1 = 14 then
  (gI 13 0 x0 h).bind fun v1 =>
  if v1 = 0 then
  (mX13_one_b15 g x0 h)
  else ((gI 13 0 x0 h).bind fun v4 =>
  if v4 = (1 : Int32) then
  (mX13_one_b15 g x0 h)
  else (b2 (newO 16 4 h) fun v6 h5 =>
  (mJ4_init_da8c8 v6 h5).bind fun h8 =>
  b2 (mJ4_append_15ec4 v6 18 h8) fun v9 h10 =>
  b2 (g.1 x0 h10) fun v11 h12 =>
  b2 (mJ4_append_15ec4 v9 v11 h12) fun v13 h14 =>
  b2 (mJ4_append_15ec4 v13 19 h14) fun v15 h16 =>
  b2 (mJ4_toString_0e30d v15 h16) fun v17 h18 =>
  some (v17, h18)))
  else none
noncomputable def mg_X13_all : Nat → GTX13_all
  | 0 => (fun _ _ => none, fun _ _ => none)
  | n + 1 => (mX13_all_F (mg_X13_all n), mX13_one_F (mg_X13_all n))
noncomputable def mX13_all (n : Nat) (x0 : Nat) (h : Hp) : Option (Nat × Hp) := (mg_X13_all n).1 x0 h
noncomputable def mX13_one (n : Nat) (x0 : Nat) (h : Hp) : Option (Nat × Hp) := (mg_X13_all n).2 x0 h

noncomputable def mJxa1e45_init_da8c8 (x0 : Nat) (h : Hp) : Option Unit :=
  some ()

noncomputable def mJxc12de_init_da8c8 (x0 : Nat) (h : Hp) : Option Hp :=
  (mJxa1e45_init_da8c8 x0 h).bind fun _ =>
  (sI 18 0 x0 (0 : Int32) h).bind fun h3 =>
  some h3

noncomputable def mJx4a65c_init_da8c8 (x0 : Nat) (h : Hp) : Option Hp :=
  (mJxc12de_init_da8c8 x0 h).bind fun h2 =>
  (sR 18 1 x0 4 h2).bind fun h3 =>
  some h3

noncomputable def mX14_init (x0 : Nat) (h : Hp) : Option Hp :=
  b2 (newA 50 8 h) fun v2 h1 =>
  (sR 14 0 x0 v2 h1).bind fun h3 =>
  b2 (newA 50 8 h3) fun v5 h4 =>
  (sR 14 1 x0 v5 h4).bind fun h6 =>
  b2 (newO 18 3 h6) fun v8 h7 =>
  (mJx4a65c_init_da8c8 v8 h7).bind fun h10 =>
  (sR 14 2 x0 v8 h10).bind fun h11 =>
  some h11

noncomputable def mJx35411_init_45d68 (x0 : Nat) (x1 : Nat) (h : Hp) : Option Hp :=
  (sR 19 3 x0 x1 h).bind fun h1 =>
  (sI 19 1 x0 (-1 : Int32) h1).bind fun h2 =>
  (gR 19 3 x0 h2).bind fun v3 =>
  (gI 18 0 v3 h2).bind fun v4 =>
  (sI 19 2 x0 v4 h2).bind fun h5 =>
  some h5

noncomputable def mJx35411_hasNext_aae02 (x0 : Nat) (h : Hp) : Option Int32 :=
  if (hpS h x0).1 = 20 then
  (gI 19 0 x0 h).bind fun v1 =>
  (gR 19 3 x0 h).bind fun v2 =>
  (gI 18 2 v2 h).bind fun v3 =>
  if v1 = v3 then
  (some (0 : Int32))
  else (some (1 : Int32))
  else none

noncomputable def mJx35411_checkForComodification_da8c8 (x0 : Nat) (h : Hp) : Option Unit :=
  if (hpS h x0).1 = 20 then
  (gR 19 3 x0 h).bind fun v1 =>
  (gI 18 0 v1 h).bind fun v2 =>
  (gI 19 2 x0 h).bind fun v3 =>
  if v2 = v3 then
  (some ())
  else (none)
  else none

noncomputable def mJx35411_next_0502b (x0 : Nat) (h : Hp) : Option (Nat × Hp) :=
  if (hpS h x0).1 = 20 then
  (mJx35411_checkForComodification_da8c8 x0 h).bind fun _ =>
  (gI 19 0 x0 h).bind fun v3 =>
  (gR 19 3 x0 h).bind fun v4 =>
  (gI 18 2 v4 h).bind fun v5 =>
  if v3 < v5 then
  ((gR 19 3 x0 h).bind fun v6 =>
  (gR 18 1 v6 h).bind fun v7 =>
  (oLn v7 h).bind fun v8 =>
  if v3 < v8 then
  ((sI 19 0 x0 (v3 + (1 : Int32)) h).bind fun h9 =>
  (sI 19 1 x0 v3 h9).bind fun h10 =>
  (ldR 18 v7 v3 h10).bind fun v11 =>
  some (v11, h10))
  else (none))
  else (none)
  else none

noncomputable def mJx4a65c_grow_92f84_b20 (x0 : Nat) (x1 : Int32) (x2 : Int32) (h : Hp) : Option (Nat × Hp) :=
  (mJ8_newLength_cabcc x2 (x1 - x2) (x2 >>> ((1 : Int32) &&& 31))).bind fun v3 =>
  (gR 18 1 x0 h).bind fun v5 =>
  none
noncomputable def mJx4a65c_grow_92f84 (x0 : Nat) (x1 : Int32) (h : Hp) : Option (Nat × Hp) :=
  if (hpS h x0).1 = 19 then
  (gR 18 1 x0 h).bind fun v1 =>
  (oLn v1 h).bind fun v2 =>
  if 0 < v2 then
  (mJx4a65c_grow_92f84_b20 x0 x1 v2 h)
  else ((gR 18 1 x0 h).bind fun v6 =>
  if v6 = 4 then
  (b2 (newV 78 (mmax (10 : Int32) x1) h) fun v8 h7 =>
  (sR 18 1 x0 v8 h7).bind fun h9 =>
  some (v8, h9))
  else if 99 ≤ v6 then (mJx4a65c_grow_92f84_b20 x0 x1 v2 h) else none)
  else none

noncomputable def mJx4a65c_grow_d5877 (x0 : Nat) (h : Hp) : Option (Nat × Hp) :=
  if (hpS h x0).1 = 19 then
  (gI 18 2 x0 h).bind fun v1 =>
  b2 (mJx4a65c_grow_92f84 x0 (v1 + (1 : Int32)) h) fun v2 h3 =>
  some (v2, h3)
  else none

noncomputable def mJx4a65c_size_8abf5 (x0 : Nat) (h : Hp) : Option Int32 :=
  if (hpS h x0).1 = 19 then
  (gI 18 2 x0 h).bind fun v1 =>
  some v1
  else none

noncomputable def mJx4a65c_elementData_915e3 (x0 : Nat) (x1 : Int32) (h : Hp) : Option Nat :=
  if (hpS h x0).1 = 19 then
  (gR 18 1 x0 h).bind fun v1 =>
  (ldR 18 v1 x1 h).bind fun v2 =>
  some v2
  else none

noncomputable def mJ15_checkIndex_7cf53 (x0 : Int32) (x1 : Int32) : Option Int32 :=
  (mJ3_checkIndex_8e157 x0 x1 0).bind fun v1 =>
  some v1

noncomputable def mJx4a65c_get_915e3 (x0 : Nat) (x1 : Int32) (h : Hp) : Option Nat :=
  if (hpS h x0).1 = 19 then
  (gI 18 2 x0 h).bind fun v1 =>
  (mJ15_checkIndex_7cf53 x1 v1).bind fun v2 =>
  (mJx4a65c_elementData_915e3 x0 x1 h).bind fun v4 =>
  some v4
  else none

noncomputable def mJx4a65c_add_72be8_b11 (x0 : Nat) (x1 : Nat) (x2 : Nat) (x3 : Int32) (h : Hp) : Option Hp :=
  (stO x2 x3 x1 h).bind fun h2 =>
  (sI 18 2 x0 (x3 + (1 : Int32)) h2).bind fun h3 =>
  some h3
noncomputable def mJx4a65c_add_72be8 (x0 : Nat) (x1 : Nat) (x2 : Nat) (x3 : Int32) (h : Hp) : Option Hp :=
  if (hpS h x0).1 = 19 then
  (oLn x2 h).bind fun v1 =>
  if x3 = v1 then
  (b2 (mJx4a65c_grow_d5877 x0 h) fun v4 h5 =>
  mJx4a65c_add_72be8_b11 x0 x1 v4 x3 h5)
  else (mJx4a65c_add_72be8_b11 x0 x1 x2 x3 h)
  else none

noncomputable def mJx4a65c_add_9ea2d (x0 : Nat) (x1 : Nat) (h : Hp) : Option (Int32 × Hp) :=
  if (hpS h x0).1 = 19 then
  (gI 18 0 x0 h).bind fun v1 =>
  (sI 18 0 x0 (v1 + (1 : Int32)) h).bind fun h2 =>
  (gR 18 1 x0 h2).bind fun v3 =>
  (gI 18 2 x0 h2).bind fun v4 =>
  (mJx4a65c_add_72be8 x0 x1 v3 v4 h2).bind fun h6 =>
  some ((1 : Int32), h6)
  else none

noncomputable def mJx4a65c_fastRemove_b59b0 (x0 : Nat) (x1 : Nat) (x2 : Int32) (h : Hp) : Option Hp :=
  if (hpS h x0).1 = 19 then
  (gI 18 0 x0 h).bind fun v1 =>
  (sI 18 0 x0 (v1 + (1 : Int32)) h).bind fun h2 =>
  (gI 18 2 x0 h2).bind fun v3 =>
  if x2 < (v3 - (1 : Int32)) then
  (none)
  else ((sI 18 2 x0 (v3 - (1 : Int32)) h2).bind fun h4 =>
  (stN 18 x1 (v3 - (1 : Int32)) h4).bind fun h5 =>
  some h5)
  else none

noncomputable def mJx4a65c_remove_915e3 (x0 : Nat) (x1 : Int32) (h : Hp) : Option (Nat × Hp) :=
  if (hpS h x0).1 = 19 then
  (gI 18 2 x0 h).bind fun v1 =>
  (mJ15_checkIndex_7cf53 x1 v1).bind fun v2 =>
  (gR 18 1 x0 h).bind fun v4 =>
  (ldR 18 v4 x1 h).bind fun v5 =>
  (mJx4a65c_fastRemove_b59b0 x0 v4 x1 h).bind fun h7 =>
  some (v5, h7)
  else none

noncomputable def mJx4a65c_clear_da8c8_l27f (x1 : Nat) (x2 : Int32) (x3 : Int32) (h : Hp) : Option ((Int32 × Hp) ⊕ Hp) :=
  if x3 < x2 then
  ((stN 18 x1 x3 h).bind fun h6 =>
  some (.inl ((x3 + (1 : Int32)), h6)))
  else (xt (some h))
noncomputable def mJx4a65c_clear_da8c8_l27 (x1 : Nat) (x2 : Int32) (x3 : Int32) (h : Hp) : Option Hp :=
  lp (fun s : (Int32 × Hp) => mJx4a65c_clear_da8c8_l27f x1 x2 s.1 s.2) (x3, h)
noncomputable def mJx4a65c_clear_da8c8 (x0 : Nat) (h : Hp) : Option Hp :=
  if (hpS h x0).1 = 19 then
  (gI 18 0 x0 h).bind fun v1 =>
  (sI 18 0 x0 (v1 + (1 : Int32)) h).bind fun h2 =>
  (gR 18 1 x0 h2).bind fun v3 =>
  (gI 18 2 x0 h2).bind fun v4 =>
  (sI 18 2 x0 (0 : Int32) h2).bind fun h5 =>
  mJx4a65c_clear_da8c8_l27 v3 v4 (0 : Int32) h5
  else none

noncomputable def mJx4a65c_iterator_32c93 (x0 : Nat) (h : Hp) : Option (Nat × Hp) :=
  if (hpS h x0).1 = 19 then
  b2 (newO 19 4 h) fun v2 h1 =>
  (mJx35411_init_45d68 v2 x0 h1).bind fun h4 =>
  some (v2, h4)
  else none

