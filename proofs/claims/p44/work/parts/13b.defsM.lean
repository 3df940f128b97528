noncomputable def mX12_init (x0 : Nat) (x1 : Nat) (x2 : Nat) (h : Hp) : Option Hp :=
  (sR 12 0 x0 x1 h).bind fun h1 =>
  (sR 12 1 x0 x2 h1).bind fun h2 =>
  some h2

noncomputable def mL_init (x0 : Nat) (h : Hp) : Option Hp :=
  b2 (newO 11 18 h) fun v2 h1 =>
  (mX11_init v2 h1).bind fun h4 =>
  (sR 15 0 x0 v2 h4).bind fun h5 =>
  b2 (newA 50 8 h5) fun v7 h6 =>
  (sR 15 6 x0 v7 h6).bind fun h8 =>
  b2 (newO 18 3 h8) fun v10 h9 =>
  (mJx4a65c_init_da8c8 v10 h9).bind fun h12 =>
  (sR 15 7 x0 v10 h12).bind fun h13 =>
  b2 (muZ h13) fun v15 h14 =>
  (sR 15 8 x0 v15 h14).bind fun h16 =>
  b2 (newO 18 3 h16) fun v18 h17 =>
  (mJx4a65c_init_da8c8 v18 h17).bind fun h20 =>
  (sR 15 11 x0 v18 h20).bind fun h21 =>
  some h21

noncomputable def mL_at_b13 (x1 : Int32) (t0 : Int32) (h : Hp) : Option Int32 :=
  if 0 < t0 then
  (if t0 < (512 : Int32) then
  (some ((t0 * (-1640531535 : Int32)) ^^^ (x1 * (-2048144789 : Int32))))
  else (some t0))
  else (some t0)
noncomputable def mL_at (x0 : Nat) (x1 : Int32) (h : Hp) : Option Int32 :=
  (aLen x0 h).bind fun v1 =>
  if x1 < v1 then
  ((ldI x0 x1 h).bind fun v2 =>
  mL_at_b13 x1 v2 h)
  else (mL_at_b13 x1 (0 : Int32) h)

noncomputable def mL_draw_b59 (x1 : Int32) (x2 : Int32) (h : Hp) : Option (Int32 × Hp) :=
  (nz x1).bind fun _ =>
  some (((x2 &&& (2147483647 : Int32)) - (x2 &&& (2147483647 : Int32)) / x1 * x1), h)
noncomputable def mL_draw_b47 (x1 : Int32) (x2 : Int32) (h : Hp) : Option (Int32 × Hp) :=
  mL_draw_b59 x1 ((x2 * (739982445 : Int32)) ^^^ (ushrI (x2 * (739982445 : Int32)) (13 : Int32))) h
noncomputable def mL_draw (x0 : Nat) (x1 : Int32) (h : Hp) : Option (Int32 × Hp) :=
  if (hpS h x0).1 = 16 then
  (gR 15 1 x0 h).bind fun v1 =>
  (gI 15 2 x0 h).bind fun v2 =>
  (gR 15 1 x0 h).bind fun v3 =>
  (aLen v3 h).bind fun v4 =>
  (nz (mmax (1 : Int32) v4)).bind fun _ =>
  (mL_at v1 (v2 - v2 / (mmax (1 : Int32) v4) * (mmax (1 : Int32) v4)) h).bind fun v5 =>
  (gI 15 2 x0 h).bind fun v7 =>
  (gI 15 2 x0 h).bind fun v8 =>
  (sI 15 2 x0 (v8 + (1 : Int32)) h).bind fun h9 =>
  mL_draw_b47 x1 ((v5 + (v7 * (668265263 : Int32))) ^^^ (ushrI (v5 + (v7 * (668265263 : Int32))) (15 : Int32))) h9
  else none

noncomputable def mL_text_b61 (x0 : Nat) (x1 : Nat) (x2 : Int32) (x4 : Int32) (t0 : Int32) (t1 : Int32) (h : Hp) : Option ((Int32 × Int32) ⊕ ((Int32 × Hp) ⊕ Hp)) :=
  some (.inl ((t0 ||| t1), (x4 + (1 : Int32))))
noncomputable def mL_text_l24f (x0 : Nat) (x1 : Nat) (x2 : Int32) (h : Hp) (x3 : Int32) (x4 : Int32) : Option ((Int32 × Int32) ⊕ ((Int32 × Hp) ⊕ Hp)) :=
  if x4 < (4 : Int32) then
  ((mJ0_length_8abf5 x1 h).bind fun v14 =>
  if (x2 + x4) < v14 then
  ((mJ0_charAt_5068e x1 (x2 + x4) h).bind fun v16 =>
  mL_text_b61 x0 x1 x2 x4 (x3 <<< ((8 : Int32) &&& 31)) (v16 &&& (255 : Int32)) h)
  else (mL_text_b61 x0 x1 x2 x4 (x3 <<< ((8 : Int32) &&& 31)) (0 : Int32) h))
  else (xt ((gR 15 0 x0 h).bind fun v11 =>
  b2 (mX11_sign v11 x3 h) fun v12 h13 =>
  some (.inl ((x2 + (4 : Int32)), h13))))
noncomputable def mL_text_l24 (x0 : Nat) (x1 : Nat) (x2 : Int32) (x3 : Int32) (x4 : Int32) (h : Hp) : Option ((Int32 × Hp) ⊕ Hp) :=
  lp (fun s : (Int32 × Int32) => mL_text_l24f x0 x1 x2 h s.1 s.2) (x3, x4)
noncomputable def mL_text_l11f (x0 : Nat) (x1 : Nat) (x2 : Int32) (h : Hp) : Option ((Int32 × Hp) ⊕ Hp) :=
  (mJ0_length_8abf5 x1 h).bind fun v4 =>
  if x2 < v4 then
  (mL_text_l24 x0 x1 x2 (0 : Int32) (0 : Int32) h)
  else (xt ((gR 15 0 x0 h).bind fun v6 =>
  (mJ0_length_8abf5 x1 h).bind fun v7 =>
  b2 (mX11_end v6 v7 h) fun v9 h10 =>
  some h10))
noncomputable def mL_text_l11 (x0 : Nat) (x1 : Nat) (x2 : Int32) (h : Hp) : Option Hp :=
  lp (fun s : (Int32 × Hp) => mL_text_l11f x0 x1 s.1 s.2) (x2, h)
noncomputable def mL_text (x0 : Nat) (x1 : Nat) (h : Hp) : Option Hp :=
  if (hpS h x0).1 = 16 then
  (gR 15 0 x0 h).bind fun v1 =>
  b2 (mX11_end v1 (0 : Int32) h) fun v2 h3 =>
  mL_text_l11 x0 x1 (0 : Int32) h3
  else none

abbrev GTL_said : Type := (Nat → Int32 → Int32 → Hp → Option (Nat × Hp))
noncomputable def mL_said_b24 (g : GTL_said) (x0 : Nat) (x1 : Int32) (h : Hp) : Option (Nat × Hp) :=
  b2 (newO 13 3 h) fun v4 h3 =>
  b2 (mL_draw x0 x1 h3) fun v5 h6 =>
  (mX13_init v4 (0 : Int32) v5 0 h6).bind fun h8 =>
  some (v4, h8)
noncomputable def mL_said_b113 (g : GTL_said) (x4 : Nat) (t0 : Nat) (t1 : Nat) (t2 : Int32) (t3 : Int32) (h : Hp) : Option (Nat × Hp) :=
  if t1 = 0 then none else
  (mX13_init t1 t2 t3 x4 h).bind fun h17 =>
  some (t0, h17)
noncomputable def mL_said_l63f (g : GTL_said) (x0 : Nat) (x1 : Int32) (x2 : Int32) (x3 : Int32) (x4 : Nat) (x5 : Int32) (h : Hp) : Option ((Int32 × Hp) ⊕ (Nat × Hp)) :=
  (aLen x4 h).bind fun v13 =>
  if x5 < v13 then
  (b2 (g x0 x1 (x2 - (1 : Int32)) h) fun v21 h22 =>
  (stR 13 x4 x5 v21 h22).bind fun h23 =>
  some (.inl ((x5 + (1 : Int32)), h23)))
  else (xt (b2 (newO 13 3 h) fun v15 h14 =>
  if x3 = (4 : Int32) then
  ((aLen x4 h14).bind fun v18 =>
  b2 (mL_draw x0 (v18 + (1 : Int32)) h14) fun v19 h20 =>
  mL_said_b113 g x4 v15 v15 x3 v19 h20)
  else (mL_said_b113 g x4 v15 v15 x3 (0 : Int32) h14)))
noncomputable def mL_said_l63 (g : GTL_said) (x0 : Nat) (x1 : Int32) (x2 : Int32) (x3 : Int32) (x4 : Nat) (x5 : Int32) (h : Hp) : Option (Nat × Hp) :=
  lp (fun s : (Int32 × Hp) => mL_said_l63f g x0 x1 x2 x3 x4 s.1 s.2) (x5, h)
noncomputable def mL_said_b55 (g : GTL_said) (x0 : Nat) (x1 : Int32) (x2 : Int32) (x3 : Int32) (t0 : Int32) (h : Hp) : Option (Nat × Hp) :=
  b2 (newV 73 t0 h) fun v12 h11 =>
  mL_said_l63 g x0 x1 x2 x3 v12 (0 : Int32) h11
noncomputable def mL_said_b14 (g : GTL_said) (x0 : Nat) (x1 : Int32) (x2 : Int32) (t0 : Int32) (h : Hp) : Option (Nat × Hp) :=
  if t0 = 0 then
  (mL_said_b24 g x0 x1 h)
  else (if t0 = (5 : Int32) then
  (mL_said_b24 g x0 x1 h)
  else (if t0 = (1 : Int32) then
  (mL_said_b55 g x0 x1 x2 t0 (1 : Int32) h)
  else (b2 (mL_draw x0 (2 : Int32) h) fun v9 h10 =>
  mL_said_b55 g x0 x1 x2 t0 ((2 : Int32) + v9) h10)))
noncomputable def mL_said_F (g : GTL_said) (x0 : Nat) (x1 : Int32) (x2 : Int32) (h : Hp) : Option (Nat × Hp) :=
  if (hpS h x0).1 = 16 then
  if x2 = 0 then
  (mL_said_b14 g x0 x1 x2 (0 : Int32) h)
  else (b2 (mL_draw x0 (6 : Int32) h) fun v1 h2 =>
  mL_said_b14 g x0 x1 x2 v1 h2)
  else none
noncomputable def mg_L_said : Nat → GTL_said
  | 0 => (fun _ _ _ _ => none)
  | n + 1 => (mL_said_F (mg_L_said n))
noncomputable def mL_said (n : Nat) (x0 : Nat) (x1 : Int32) (x2 : Int32) (h : Hp) : Option (Nat × Hp) := (mg_L_said n) x0 x1 x2 h

noncomputable def mL_can_l19f (x1 : Int32) (x2 : Nat) (h : Hp) : Option (Hp ⊕ (Int32 × Hp)) :=
  (mJx35411_hasNext_aae02 x2 h).bind fun v5 =>
  if v5 = 0 then
  (xt (some ((1 : Int32), h)))
  else (b2 (mJx35411_next_0502b x2 h) fun v7 h8 =>
  if v7 = 0 ∨ (hpS h8 v7).1 = 14 then
  b2 (mX13_holds 40 v7 x1 h8) fun v9 h10 =>
  if v9 = 0 then
  (some (.inl h10))
  else (xt (some ((0 : Int32), h10)))
  else none)
noncomputable def mL_can_l19 (x1 : Int32) (x2 : Nat) (h : Hp) : Option (Int32 × Hp) :=
  lp (fun s : Hp => mL_can_l19f x1 x2 s) h
noncomputable def mL_can (x0 : Nat) (x1 : Int32) (h : Hp) : Option (Int32 × Hp) :=
  if (hpS h x0).1 = 16 then
  (gI 15 3 x0 h).bind fun v1 =>
  if (x1 >>> (v1 &&& 31)) = 0 then
  ((gR 15 7 x0 h).bind fun v2 =>
  b2 (mJx4a65c_iterator_32c93 v2 h) fun v3 h4 =>
  mL_can_l19 x1 v3 h4)
  else (some ((0 : Int32), h))
  else none

noncomputable def mL_some_l2f (x0 : Nat) (x1 : Int32) (h : Hp) : Option ((Int32 × Hp) ⊕ (Int32 × Hp)) :=
  (gI 15 3 x0 h).bind fun v1 =>
  if x1 < ((1 : Int32) <<< (v1 &&& 31)) then
  (b2 (mL_can x0 x1 h) fun v2 h3 =>
  if v2 = 0 then
  (some (.inl ((x1 + (1 : Int32)), h3)))
  else (xt (some ((1 : Int32), h3))))
  else (xt (some ((0 : Int32), h)))
noncomputable def mL_some_l2 (x0 : Nat) (x1 : Int32) (h : Hp) : Option (Int32 × Hp) :=
  lp (fun s : (Int32 × Hp) => mL_some_l2f x0 s.1 s.2) (x1, h)
noncomputable def mL_some (x0 : Nat) (h : Hp) : Option (Int32 × Hp) :=
  if (hpS h x0).1 = 16 then
  mL_some_l2 x0 (0 : Int32) h
  else none

noncomputable def mL_gap (x0 : Nat) (h : Hp) : Option (Nat × Hp) :=
  if (hpS h x0).1 = 16 then
  b2 (mL_draw x0 (9 : Int32) h) fun v1 h2 =>
  if v1 = 0 then
  (b2 (mL_draw x0 (2 : Int32) h2) fun v3 h4 =>
  if v3 = 0 then
  (some (12, h4))
  else (some (13, h4)))
  else (some (14, h2))
  else none

noncomputable def mL_fact (x0 : Int32) (h : Hp) : Option (Nat × Hp) :=
  b2 (newO 16 4 h) fun v2 h1 =>
  (mJ4_init_da8c8 v2 h1).bind fun h4 =>
  b2 (mJ4_append_15ec4 v2 14 h4) fun v5 h6 =>
  b2 (mJ4_append_cf468 v5 (i2cV ((97 : Int32) + x0)) h6) fun v7 h8 =>
  b2 (mJ4_toString_0e30d v7 h8) fun v9 h10 =>
  some (v9, h10)

noncomputable def mL_count (x0 : Int32) (h : Hp) : Option (Nat × Hp) :=
  b2 (newO 16 4 h) fun v2 h1 =>
  (mJ4_init_da8c8 v2 h1).bind fun h4 =>
  b2 (mJ4_append_15ec4 v2 26 h4) fun v5 h6 =>
  b2 (mJ4_append_cf468 v5 (i2cV ((97 : Int32) + x0)) h6) fun v7 h8 =>
  b2 (mJ4_toString_0e30d v7 h8) fun v9 h10 =>
  some (v9, h10)

noncomputable def mL_fits (x0 : Nat) (x1 : Nat) (x2 : Nat) (h : Hp) : Option (Int32 × Hp) :=
  if (hpS h x0).1 = 16 then
  (mJ4_length_8abf5 x1 h).bind fun v1 =>
  (mJ0_length_8abf5 x2 h).bind fun v3 =>
  if (470 : Int32) < (v1 + v3) then
  (some ((0 : Int32), h))
  else (b2 (mJ4_append_15ec4 x1 x2 h) fun v5 h6 =>
  b2 (mJ4_append_cf468 v5 (59 : Int32) h6) fun v7 h8 =>
  b2 (mL_gap x0 h8) fun v9 h10 =>
  b2 (mJ4_append_15ec4 v7 v9 h10) fun v11 h12 =>
  (gI 15 5 x0 h12).bind fun v13 =>
  (sI 15 5 x0 (v13 + (1 : Int32)) h12).bind fun h14 =>
  some ((1 : Int32), h14))
  else none

noncomputable def mL_told_b947 (x0 : Nat) (x3 : Nat) (h : Hp) : Option (Int32 × Hp) :=
  b2 (mJ4_toString_0e30d x3 h) fun v29 h30 =>
  (mL_text x0 v29 h30).bind fun h32 =>
  (gR 15 0 x0 h32).bind fun v33 =>
  b2 (mX11_suit v33 h32) fun v34 h35 =>
  (gI 15 5 x0 h35).bind fun v36 =>
  if v34 = v36 then
  ((gR 15 0 x0 h35).bind fun v37 =>
  (mX11_fault v37 (0 : Int32) h35).bind fun v38 =>
  if v38 = 0 then
  ((gR 15 0 x0 h35).bind fun v40 =>
  (mX11_fault v40 (1 : Int32) h35).bind fun v41 =>
  if v41 = (-1 : Int32) then
  ((gR 15 0 x0 h35).bind fun v43 =>
  b2 (mX11_count v43 (8 : Int32) h35) fun v44 h45 =>
  if v44 = 0 then
  (some ((1 : Int32), h45))
  else (some ((0 : Int32), h45)))
  else (some ((0 : Int32), h35)))
  else (some ((0 : Int32), h35)))
  else (some ((0 : Int32), h35))
noncomputable def mL_told_b941 (x0 : Nat) (x2 : Int32) (x3 : Nat) (x4 : Int32) (h : Hp) : Option ((Int32 × Hp) ⊕ (Int32 × Hp)) :=
  some (.inl ((x4 + (1 : Int32)), h))
noncomputable def mL_told_b848 (x0 : Nat) (x2 : Int32) (x3 : Nat) (x4 : Int32) (x10 : Nat) (x11 : Int32) (h : Hp) : Option ((Int32 × Hp) ⊕ ((Int32 × Hp) ⊕ (Int32 × Hp))) :=
  some (.inl ((x11 + (-1 : Int32)), h))
noncomputable def mL_told_b796 (x0 : Nat) (x2 : Int32) (x3 : Nat) (x4 : Int32) (x10 : Nat) (x11 : Int32) (x12 : Int32) (x13 : Int32) (t0 : Nat) (t1 : Nat) (t2 : Nat) (t3 : Nat) (h : Hp) : Option ((Int32 × Hp) ⊕ ((Int32 × Hp) ⊕ (Int32 × Hp))) :=
  b2 (mJ4_append_15ec4 t2 t3 h) fun v150 h151 =>
  b2 (mL_fact x12 h151) fun v152 h153 =>
  b2 (mJ4_append_15ec4 v150 v152 h153) fun v154 h155 =>
  b2 (mJ4_toString_0e30d v154 h155) fun v156 h157 =>
  b2 (mL_fits t0 t1 v156 h157) fun v158 h159 =>
  if v158 = 0 then
  (mL_told_b848 x0 x2 x3 x4 x10 x11 h159)
  else ((gI 12 5 x10 h159).bind fun v160 =>
  (sI 12 5 x10 (v160 ||| ((1 : Int32) <<< (x12 &&& 31))) h159).bind fun h161 =>
  (gI 12 6 x10 h161).bind fun v162 =>
  (sI 12 6 x10 (v162 ||| (x13 <<< (x12 &&& 31))) h161).bind fun h163 =>
  mL_told_b848 x0 x2 x3 x4 x10 x11 h163)
noncomputable def mL_told_b745 (x0 : Nat) (x2 : Int32) (x3 : Nat) (x4 : Int32) (x10 : Nat) (x11 : Int32) (x12 : Int32) (t0 : Int32) (h : Hp) : Option ((Int32 × Hp) ⊕ ((Int32 × Hp) ⊕ (Int32 × Hp))) :=
  (gI 12 5 x10 h).bind fun v139 =>
  if ((v139 >>> (x12 &&& 31)) &&& (1 : Int32)) = (1 : Int32) then
  (mL_told_b848 x0 x2 x3 x4 x10 x11 h)
  else (b2 (newO 16 4 h) fun v141 h140 =>
  (mJ4_init_da8c8 v141 h140).bind fun h143 =>
  b2 (mJ4_append_15ec4 v141 31 h143) fun v144 h145 =>
  b2 (mL_count x4 h145) fun v146 h147 =>
  b2 (mJ4_append_15ec4 v144 v146 h147) fun v148 h149 =>
  if t0 = (1 : Int32) then
  (mL_told_b796 x0 x2 x3 x4 x10 x11 x12 t0 x0 x3 v148 12 h149)
  else (mL_told_b796 x0 x2 x3 x4 x10 x11 x12 t0 x0 x3 v148 32 h149))
noncomputable def mL_told_l717f (x0 : Nat) (x2 : Int32) (x3 : Nat) (x4 : Int32) (x10 : Nat) (x11 : Int32) (h : Hp) : Option ((Int32 × Hp) ⊕ ((Int32 × Hp) ⊕ (Int32 × Hp))) :=
  if 0 < x11 then
  ((gI 15 3 x0 h).bind fun v134 =>
  b2 (mL_draw x0 v134 h) fun v135 h136 =>
  b2 (mL_draw x0 (4 : Int32) h136) fun v137 h138 =>
  if v137 = 0 then
  (mL_told_b745 x0 x2 x3 x4 x10 x11 v135 (0 : Int32) h138)
  else (mL_told_b745 x0 x2 x3 x4 x10 x11 v135 (1 : Int32) h138))
  else (xt (if 0 < x4 then
  (b2 (mL_draw x0 (2 : Int32) h) fun v104 h105 =>
  if v104 = 0 then
  (b2 (mL_draw x0 x4 h105) fun v106 h107 =>
  b2 (newO 16 4 h107) fun v109 h108 =>
  (mJ4_init_da8c8 v109 h108).bind fun h111 =>
  b2 (mJ4_append_15ec4 v109 33 h111) fun v112 h113 =>
  b2 (mL_count x4 h113) fun v114 h115 =>
  b2 (mJ4_append_15ec4 v112 v114 h115) fun v116 h117 =>
  b2 (mJ4_append_15ec4 v116 12 h117) fun v118 h119 =>
  b2 (mL_count v106 h119) fun v120 h121 =>
  b2 (mJ4_append_15ec4 v118 v120 h121) fun v122 h123 =>
  b2 (mJ4_toString_0e30d v122 h123) fun v124 h125 =>
  b2 (mL_fits x0 x3 v124 h125) fun v126 h127 =>
  if v126 = 0 then
  (mL_told_b941 x0 x2 x3 x4 h127)
  else ((gR 15 8 x0 h127).bind fun v128 =>
  (ldR 19 v128 x4 h127).bind fun v129 =>
  (stZ v129 v106 (1 : Int32) h127).bind fun h130 =>
  (gR 15 8 x0 h130).bind fun v131 =>
  (ldR 19 v131 v106 h130).bind fun v132 =>
  (stZ v132 x4 (1 : Int32) h130).bind fun h133 =>
  mL_told_b941 x0 x2 x3 x4 h133))
  else (mL_told_b941 x0 x2 x3 x4 h105))
  else (mL_told_b941 x0 x2 x3 x4 h)))
noncomputable def mL_told_l717 (x0 : Nat) (x2 : Int32) (x3 : Nat) (x4 : Int32) (x10 : Nat) (x11 : Int32) (h : Hp) : Option ((Int32 × Hp) ⊕ (Int32 × Hp)) :=
  lp (fun s : (Int32 × Hp) => mL_told_l717f x0 x2 x3 x4 x10 s.1 s.2) (x11, h)
noncomputable def mL_told_b663 (x0 : Nat) (x2 : Int32) (x3 : Nat) (x4 : Int32) (x5 : Nat) (x6 : Nat) (x7 : Int32) (x8 : Int32) (h : Hp) : Option ((Int32 × Hp) ⊕ (Int32 × Hp)) :=
  b2 (newO 12 9 h) fun v92 h91 =>
  (mX12_init v92 x5 x6 h91).bind fun h94 =>
  (sI 12 2 v92 x7 h94).bind fun h95 =>
  (sI 12 3 v92 x8 h95).bind fun h96 =>
  (sI 12 7 v92 x4 h96).bind fun h97 =>
  (gR 15 9 x0 h97).bind fun v98 =>
  (gR 14 2 v98 h97).bind fun v99 =>
  b2 (mJx4a65c_add_9ea2d v99 v92 h97) fun v100 h101 =>
  b2 (mL_draw x0 (4 : Int32) h101) fun v102 h103 =>
  mL_told_l717 x0 x2 x3 x4 v92 v102 h103
noncomputable def mL_told_b604 (x0 : Nat) (x2 : Int32) (x3 : Nat) (x4 : Int32) (x5 : Nat) (x6 : Nat) (x7 : Int32) (x8 : Int32) (h : Hp) : Option ((Int32 × Hp) ⊕ (Int32 × Hp)) :=
  (aLen x6 h).bind fun v90 =>
  if v90 = (1 : Int32) then
  (b2 (newO 16 4 h) fun v165 h164 =>
  (mJ4_init_da8c8 v165 h164).bind fun h167 =>
  b2 (mJ4_append_15ec4 v165 30 h167) fun v168 h169 =>
  b2 (mL_count x4 h169) fun v170 h171 =>
  b2 (mJ4_append_15ec4 v168 v170 h171) fun v172 h173 =>
  b2 (mJ4_append_15ec4 v172 12 h173) fun v174 h175 =>
  (ldR 13 x6 (0 : Int32) h175).bind fun v176 =>
  b2 (mX13_all 40 v176 h175) fun v177 h178 =>
  b2 (mJ4_append_15ec4 v174 v177 h178) fun v179 h180 =>
  b2 (mJ4_toString_0e30d v179 h180) fun v181 h182 =>
  b2 (mL_fits x0 x3 v181 h182) fun v183 h184 =>
  if v183 = 0 then
  (b2 (newV 73 (0 : Int32) h184) fun v186 h185 =>
  mL_told_b663 x0 x2 x3 x4 x5 v186 x7 x8 h185)
  else (mL_told_b663 x0 x2 x3 x4 x5 x6 x7 x8 h184))
  else (mL_told_b663 x0 x2 x3 x4 x5 x6 x7 x8 h)
noncomputable def mL_told_l510f (x0 : Nat) (x2 : Int32) (x3 : Nat) (x4 : Int32) (x5 : Nat) (x6 : Nat) (x7 : Int32) (x8 : Int32) (x9 : Nat) (x10 : Int32) (h : Hp) : Option ((Int32 × Hp) ⊕ ((Int32 × Hp) ⊕ (Int32 × Hp))) :=
  (aLen x5 h).bind fun v84 =>
  if x10 < v84 then
  ((gI 15 3 x0 h).bind fun v191 =>
  b2 (mL_draw x0 (3 : Int32) h) fun v192 h193 =>
  b2 (mL_said 40 x0 v191 v192 h193) fun v194 h195 =>
  (stR 13 x5 x10 v194 h195).bind fun h196 =>
  b2 (mL_gap x0 h196) fun v197 h198 =>
  b2 (mJ4_append_15ec4 x9 v197 h198) fun v199 h200 =>
  b2 (mJ4_append_15ec4 v199 29 h200) fun v201 h202 =>
  (ldR 13 x5 x10 h202).bind fun v203 =>
  b2 (mX13_all 40 v203 h202) fun v204 h205 =>
  b2 (mJ4_append_15ec4 v201 v204 h205) fun v206 h207 =>
  some (.inl ((x10 + (1 : Int32)), h207)))
  else (xt (b2 (mJ4_toString_0e30d x9 h) fun v85 h86 =>
  b2 (mL_fits x0 x3 v85 h86) fun v87 h88 =>
  if v87 = 0 then
  (xt (mL_told_b947 x0 x3 h88))
  else ((aLen x6 h88).bind fun v89 =>
  if v89 = (1 : Int32) then
  ((gI 15 3 x0 h88).bind fun v187 =>
  b2 (mL_said 40 x0 v187 (1 : Int32) h88) fun v188 h189 =>
  (stR 13 x6 (0 : Int32) v188 h189).bind fun h190 =>
  mL_told_b604 x0 x2 x3 x4 x5 x6 x7 x8 h190)
  else (mL_told_b604 x0 x2 x3 x4 x5 x6 x7 x8 h88))))
noncomputable def mL_told_l510 (x0 : Nat) (x2 : Int32) (x3 : Nat) (x4 : Int32) (x5 : Nat) (x6 : Nat) (x7 : Int32) (x8 : Int32) (x9 : Nat) (x10 : Int32) (h : Hp) : Option ((Int32 × Hp) ⊕ (Int32 × Hp)) :=
  lp (fun s : (Int32 × Hp) => mL_told_l510f x0 x2 x3 x4 x5 x6 x7 x8 x9 s.1 s.2) (x10, h)
noncomputable def mL_told_b444 (x0 : Nat) (x2 : Int32) (x3 : Nat) (x4 : Int32) (x5 : Nat) (x6 : Nat) (t0 : Int32) (h : Hp) : Option ((Int32 × Hp) ⊕ (Int32 × Hp)) :=
  b2 (mL_draw x0 (700 : Int32) h) fun v58 h59 =>
  b2 (newO 16 4 h59) fun v61 h60 =>
  b2 (newO 16 4 h60) fun v63 h62 =>
  (mJ4_init_da8c8 v63 h62).bind fun h65 =>
  b2 (mJ4_append_15ec4 v63 25 h65) fun v66 h67 =>
  b2 (mL_count x4 h67) fun v68 h69 =>
  b2 (mJ4_append_15ec4 v66 v68 h69) fun v70 h71 =>
  b2 (mJ4_append_15ec4 v70 27 h71) fun v72 h73 =>
  b2 (mJ4_append_bf812 v72 t0 h73) fun v74 h75 =>
  b2 (mJ4_append_15ec4 v74 28 h75) fun v76 h77 =>
  b2 (mJ4_append_bf812 v76 v58 h77) fun v78 h79 =>
  b2 (mJ4_toString_0e30d v78 h79) fun v80 h81 =>
  (mJ4_init_a7421 v61 v80 h81).bind fun h83 =>
  mL_told_l510 x0 x2 x3 x4 x5 x6 t0 v58 v61 (0 : Int32) h83
noncomputable def mL_told_l390f (x0 : Nat) (x2 : Int32) (x3 : Nat) (x4 : Int32) (h : Hp) : Option ((Int32 × Hp) ⊕ (Int32 × Hp)) :=
  if x4 < x2 then
  (b2 (mL_draw x0 (3 : Int32) h) fun v46 h47 =>
  b2 (newV 73 ((1 : Int32) + v46) h47) fun v49 h48 =>
  b2 (mL_draw x0 (2 : Int32) h48) fun v50 h51 =>
  b2 (newV 73 v50 h51) fun v53 h52 =>
  b2 (mL_draw x0 (2 : Int32) h52) fun v54 h55 =>
  if v54 = 0 then
  (b2 (mL_draw x0 (4 : Int32) h55) fun v208 h209 =>
  mL_told_b444 x0 x2 x3 x4 v49 v53 ((10 : Int32) * v208) h209)
  else (b2 (mL_draw x0 (1000 : Int32) h55) fun v56 h57 =>
  mL_told_b444 x0 x2 x3 x4 v49 v53 v56 h57))
  else (xt (mL_told_b947 x0 x3 h))
noncomputable def mL_told_l390 (x0 : Nat) (x2 : Int32) (x3 : Nat) (x4 : Int32) (h : Hp) : Option (Int32 × Hp) :=
  lp (fun s : (Int32 × Hp) => mL_told_l390f x0 x2 x3 s.1 s.2) (x4, h)
noncomputable def mL_told_b387 (x0 : Nat) (x2 : Int32) (x3 : Nat) (h : Hp) : Option (Int32 × Hp) :=
  mL_told_l390 x0 x2 x3 (0 : Int32) h
noncomputable def mL_told_b332 (x0 : Nat) (x2 : Int32) (x3 : Nat) (x4 : Int32) (h : Hp) : Option ((Int32 × Hp) ⊕ (Int32 × Hp)) :=
  some (.inl ((x4 + (-1 : Int32)), h))
noncomputable def mL_told_b315 (x0 : Nat) (x2 : Int32) (x3 : Nat) (x4 : Int32) (h : Hp) : Option ((Int32 × Hp) ⊕ (Int32 × Hp)) :=
  (gR 15 7 x0 h).bind fun v234 =>
  (gR 15 7 x0 h).bind fun v235 =>
  (mJx4a65c_size_8abf5 v235 h).bind fun v236 =>
  b2 (mJx4a65c_remove_915e3 v234 (v236 - (1 : Int32)) h) fun v238 h239 =>
  mL_told_b332 x0 x2 x3 x4 h239
noncomputable def mL_told_l231f (x0 : Nat) (x2 : Int32) (x3 : Nat) (x4 : Int32) (h : Hp) : Option ((Int32 × Hp) ⊕ (Int32 × Hp)) :=
  if 0 < x4 then
  ((gR 15 7 x0 h).bind fun v226 =>
  (gI 15 3 x0 h).bind fun v227 =>
  b2 (mL_said 40 x0 v227 (2 : Int32) h) fun v228 h229 =>
  b2 (mJx4a65c_add_9ea2d v226 v228 h229) fun v230 h231 =>
  b2 (mL_some x0 h231) fun v232 h233 =>
  if v232 = 0 then
  (mL_told_b315 x0 x2 x3 x4 h233)
  else (b2 (newO 16 4 h233) fun v241 h240 =>
  (mJ4_init_da8c8 v241 h240).bind fun h243 =>
  b2 (mJ4_append_15ec4 v241 16 h243) fun v244 h245 =>
  b2 (mL_gap x0 h245) fun v246 h247 =>
  b2 (mJ4_append_15ec4 v244 v246 h247) fun v248 h249 =>
  (gR 15 7 x0 h249).bind fun v250 =>
  (gR 15 7 x0 h249).bind fun v251 =>
  (mJx4a65c_size_8abf5 v251 h249).bind fun v252 =>
  (mJx4a65c_get_915e3 v250 (v252 - (1 : Int32)) h249).bind fun v254 =>
  if v254 = 0 ∨ (hpS h249 v254).1 = 14 then
  b2 (mX13_all 40 v254 h249) fun v256 h257 =>
  b2 (mJ4_append_15ec4 v248 v256 h257) fun v258 h259 =>
  b2 (mJ4_toString_0e30d v258 h259) fun v260 h261 =>
  b2 (mL_fits x0 x3 v260 h261) fun v262 h263 =>
  if v262 = 0 then
  (mL_told_b315 x0 x2 x3 x4 h263)
  else (mL_told_b332 x0 x2 x3 x4 h263)
  else none))
  else (xt (b2 (mL_draw x0 (2 : Int32) h) fun v27 h28 =>
  if v27 = 0 then
  (b2 (mL_draw x0 (600 : Int32) h28) fun v210 h211 =>
  (sI 15 4 x0 ((1 : Int32) + v210) h211).bind fun h212 =>
  b2 (newO 16 4 h212) fun v214 h213 =>
  (mJ4_init_da8c8 v214 h213).bind fun h216 =>
  b2 (mJ4_append_15ec4 v214 24 h216) fun v217 h218 =>
  (gI 15 4 x0 h218).bind fun v219 =>
  b2 (mJ4_append_bf812 v217 v219 h218) fun v220 h221 =>
  b2 (mJ4_toString_0e30d v220 h221) fun v222 h223 =>
  b2 (mL_fits x0 x3 v222 h223) fun v224 h225 =>
  mL_told_b387 x0 x2 x3 h225)
  else (mL_told_b387 x0 x2 x3 h28)))
noncomputable def mL_told_l231 (x0 : Nat) (x2 : Int32) (x3 : Nat) (x4 : Int32) (h : Hp) : Option (Int32 × Hp) :=
  lp (fun s : (Int32 × Hp) => mL_told_l231f x0 x2 x3 s.1 s.2) (x4, h)
noncomputable def mL_told_b208 (x0 : Nat) (x2 : Int32) (x3 : Nat) (x4 : Int32) (t0 : Nat) (t1 : Nat) (t2 : Nat) (t3 : Nat) (h : Hp) : Option ((Int32 × Hp) ⊕ (Int32 × Hp)) :=
  b2 (mJ4_append_15ec4 t2 t3 h) fun v294 h295 =>
  b2 (mJ4_toString_0e30d v294 h295) fun v296 h297 =>
  b2 (mL_fits t0 t1 v296 h297) fun v298 h299 =>
  some (.inl ((x4 + (1 : Int32)), h299))
noncomputable def mL_told_b144 (x0 : Nat) (x2 : Int32) (x3 : Nat) (x4 : Int32) (t0 : Nat) (t1 : Int32) (t2 : Int32) (h : Hp) : Option ((Int32 × Hp) ⊕ (Int32 × Hp)) :=
  (stI t0 t1 t2 h).bind fun h269 =>
  b2 (newO 16 4 h269) fun v271 h270 =>
  (mJ4_init_da8c8 v271 h270).bind fun h273 =>
  b2 (mJ4_append_15ec4 v271 15 h273) fun v274 h275 =>
  b2 (mL_fact x4 h275) fun v276 h277 =>
  b2 (mJ4_append_15ec4 v274 v276 h277) fun v278 h279 =>
  (gR 15 6 x0 h279).bind fun v280 =>
  (ldI v280 x4 h279).bind fun v281 =>
  if v281 = (5 : Int32) then
  (mL_told_b208 x0 x2 x3 x4 x0 x3 v278 14 h279)
  else (b2 (newO 16 4 h279) fun v283 h282 =>
  (mJ4_init_da8c8 v283 h282).bind fun h285 =>
  b2 (mJ4_append_15ec4 v283 12 h285) fun v286 h287 =>
  (gR 15 6 x0 h287).bind fun v288 =>
  (ldI v288 x4 h287).bind fun v289 =>
  b2 (mJ4_append_bf812 v286 v289 h287) fun v290 h291 =>
  b2 (mJ4_toString_0e30d v290 h291) fun v292 h293 =>
  mL_told_b208 x0 x2 x3 x4 x0 x3 v278 v292 h293)
noncomputable def mL_told_l109f (x0 : Nat) (x2 : Int32) (x3 : Nat) (x4 : Int32) (h : Hp) : Option ((Int32 × Hp) ⊕ (Int32 × Hp)) :=
  (gI 15 3 x0 h).bind fun v24 =>
  if x4 < v24 then
  ((gR 15 6 x0 h).bind fun v264 =>
  b2 (mL_draw x0 (3 : Int32) h) fun v265 h266 =>
  if v265 = 0 then
  (mL_told_b144 x0 x2 x3 x4 v264 x4 (5 : Int32) h266)
  else (b2 (mL_draw x0 (9 : Int32) h266) fun v267 h268 =>
  mL_told_b144 x0 x2 x3 x4 v264 x4 ((1 : Int32) + v267) h268))
  else (xt (b2 (mL_draw x0 (3 : Int32) h) fun v25 h26 =>
  mL_told_l231 x0 x2 x3 v25 h26))
noncomputable def mL_told_l109 (x0 : Nat) (x2 : Int32) (x3 : Nat) (x4 : Int32) (h : Hp) : Option (Int32 × Hp) :=
  lp (fun s : (Int32 × Hp) => mL_told_l109f x0 x2 x3 s.1 s.2) (x4, h)
noncomputable def mL_told_l77f (x0 : Nat) (x2 : Int32) (x3 : Nat) (x4 : Int32) (x5 : Int32) (h : Hp) : Option ((Int32 × Hp) ⊕ ((Int32 × Hp) ⊕ (Int32 × Hp))) :=
  if x5 < (5 : Int32) then
  ((gR 15 8 x0 h).bind fun v300 =>
  (ldR 19 v300 x4 h).bind fun v301 =>
  (stZ v301 x5 (0 : Int32) h).bind fun h302 =>
  some (.inl ((x5 + (1 : Int32)), h302)))
  else (xt (some (.inl ((x4 + (1 : Int32)), h))))
noncomputable def mL_told_l77 (x0 : Nat) (x2 : Int32) (x3 : Nat) (x4 : Int32) (x5 : Int32) (h : Hp) : Option ((Int32 × Hp) ⊕ (Int32 × Hp)) :=
  lp (fun s : (Int32 × Hp) => mL_told_l77f x0 x2 x3 x4 s.1 s.2) (x5, h)
noncomputable def mL_told_l68f (x0 : Nat) (x2 : Int32) (x3 : Nat) (x4 : Int32) (h : Hp) : Option ((Int32 × Hp) ⊕ (Int32 × Hp)) :=
  if x4 < (5 : Int32) then
  (mL_told_l77 x0 x2 x3 x4 (0 : Int32) h)
  else (xt (mL_told_l109 x0 x2 x3 (0 : Int32) h))
noncomputable def mL_told_l68 (x0 : Nat) (x2 : Int32) (x3 : Nat) (x4 : Int32) (h : Hp) : Option (Int32 × Hp) :=
  lp (fun s : (Int32 × Hp) => mL_told_l68f x0 x2 x3 s.1 s.2) (x4, h)
noncomputable def mL_told (x0 : Nat) (x1 : Int32) (x2 : Int32) (h : Hp) : Option (Int32 × Hp) :=
  if (hpS h x0).1 = 16 then
  b2 (newO 16 4 h) fun v2 h1 =>
  b2 (mL_gap x0 h1) fun v3 h4 =>
  (mJ4_init_a7421 v2 v3 h4).bind fun h6 =>
  b2 (mL_draw x0 x1 h6) fun v7 h8 =>
  (sI 15 3 x0 ((1 : Int32) + v7) h8).bind fun h9 =>
  (sI 15 5 x0 (0 : Int32) h9).bind fun h10 =>
  (sI 15 4 x0 (300 : Int32) h10).bind fun h11 =>
  (gR 15 7 x0 h11).bind fun v12 =>
  (mJx4a65c_clear_da8c8 v12 h11).bind fun h14 =>
  b2 (newO 14 5 h14) fun v16 h15 =>
  (mX14_init v16 h15).bind fun h18 =>
  (sR 15 9 x0 v16 h18).bind fun h19 =>
  (sR 15 10 x0 0 h19).bind fun h20 =>
  (gR 15 11 x0 h20).bind fun v21 =>
  (mJx4a65c_clear_da8c8 v21 h20).bind fun h23 =>
  mL_told_l68 x0 x2 v2 (0 : Int32) h23
  else none

noncomputable def mL_numbers_l50f (x0 : Nat) (x1 : Int32) (x3 : Int32) (x2 : Int32) (x4 : Int32) (h : Hp) : Option ((Int32 × Int32 × Hp) ⊕ ((Int32 × Int32 × Hp) ⊕ (Int32 × Hp))) :=
  if x4 < (3 : Int32) then
  ((gR 15 0 x0 h).bind fun v10 =>
  b2 (mX11_element v10 x1 x3 x4 h) fun v11 h12 =>
  some (.inl ((((31 : Int32) * x2) + v11), (x4 + (1 : Int32)), h12)))
  else (xt (some (.inl (x2, (x3 + (1 : Int32)), h))))
noncomputable def mL_numbers_l50 (x0 : Nat) (x1 : Int32) (x2 : Int32) (x3 : Int32) (x4 : Int32) (h : Hp) : Option ((Int32 × Int32 × Hp) ⊕ (Int32 × Hp)) :=
  lp (fun s : (Int32 × Int32 × Hp) => mL_numbers_l50f x0 x1 x3 s.1 s.2.1 s.2.2) (x2, x4, h)
noncomputable def mL_numbers_l34f (x0 : Nat) (x1 : Int32) (x2 : Int32) (x3 : Int32) (h : Hp) : Option ((Int32 × Int32 × Hp) ⊕ (Int32 × Hp)) :=
  (gR 15 0 x0 h).bind fun v1 =>
  b2 (mX11_of v1 x1 (5 : Int32) h) fun v2 h3 =>
  if x3 < v2 then
  (mL_numbers_l50 x0 x1 x2 x3 (0 : Int32) h3)
  else (xt ((gR 15 0 x0 h3).bind fun v4 =>
  b2 (mX11_judged v4 x1 h3) fun v5 h6 =>
  (gR 15 0 x0 h6).bind fun v7 =>
  b2 (mX11_chance v7 x1 (0 : Int32) h6) fun v8 h9 =>
  some ((((31 : Int32) * (((31 : Int32) * x2) + v5)) + v8), h9)))
noncomputable def mL_numbers_l34 (x0 : Nat) (x1 : Int32) (x2 : Int32) (x3 : Int32) (h : Hp) : Option (Int32 × Hp) :=
  lp (fun s : (Int32 × Int32 × Hp) => mL_numbers_l34f x0 x1 s.1 s.2.1 s.2.2) (x2, x3, h)
noncomputable def mL_numbers_l5f (x0 : Nat) (x1 : Int32) (x2 : Int32) (x3 : Int32) (h : Hp) : Option ((Int32 × Int32 × Hp) ⊕ (Int32 × Hp)) :=
  if x3 < (11 : Int32) then
  ((gR 15 0 x0 h).bind fun v13 =>
  b2 (mX11_of v13 x1 x3 h) fun v14 h15 =>
  some (.inl ((((31 : Int32) * x2) + v14), (x3 + (1 : Int32)), h15)))
  else (xt (mL_numbers_l34 x0 x1 x2 (0 : Int32) h))
noncomputable def mL_numbers_l5 (x0 : Nat) (x1 : Int32) (x2 : Int32) (x3 : Int32) (h : Hp) : Option (Int32 × Hp) :=
  lp (fun s : (Int32 × Int32 × Hp) => mL_numbers_l5f x0 x1 s.1 s.2.1 s.2.2) (x2, x3, h)
noncomputable def mL_numbers (x0 : Nat) (x1 : Int32) (h : Hp) : Option (Int32 × Hp) :=
  if (hpS h x0).1 = 16 then
  mL_numbers_l5 x0 x1 (17 : Int32) (0 : Int32) h
  else none

noncomputable def mL_digest_l99f (x0 : Nat) (x1 : Int32) (x2 : Int32) (h : Hp) : Option ((Int32 × Int32 × Hp) ⊕ (Int32 × Hp)) :=
  (gR 15 0 x0 h).bind fun v10 =>
  b2 (mX11_count v10 (2 : Int32) h) fun v11 h12 =>
  if x2 < v11 then
  (b2 (mL_numbers x0 x2 h12) fun v16 h17 =>
  some (.inl ((((31 : Int32) * x1) + v16), (x2 + (1 : Int32)), h17)))
  else (xt ((gR 15 0 x0 h12).bind fun v13 =>
  b2 (mX11_outcomes v13 h12) fun v14 h15 =>
  some ((((31 : Int32) * x1) + v14), h15)))
noncomputable def mL_digest_l99 (x0 : Nat) (x1 : Int32) (x2 : Int32) (h : Hp) : Option (Int32 × Hp) :=
  lp (fun s : (Int32 × Int32 × Hp) => mL_digest_l99f x0 s.1 s.2.1 s.2.2) (x1, x2, h)
noncomputable def mL_digest_l65f (x0 : Nat) (x2 : Int32) (h : Hp) (x1 : Int32) (x3 : Int32) : Option ((Int32 × Int32) ⊕ ((Int32 × Int32 × Hp) ⊕ (Int32 × Hp))) :=
  if x3 < (4 : Int32) then
  ((gR 15 0 x0 h).bind fun v18 =>
  (mX11_fact v18 x2 x3 h).bind fun v19 =>
  some (.inl ((((31 : Int32) * x1) + v19), (x3 + (1 : Int32)))))
  else (xt (some (.inl (x1, (x2 + (1 : Int32)), h))))
noncomputable def mL_digest_l65 (x0 : Nat) (x1 : Int32) (x2 : Int32) (x3 : Int32) (h : Hp) : Option ((Int32 × Int32 × Hp) ⊕ (Int32 × Hp)) :=
  lp (fun s : (Int32 × Int32) => mL_digest_l65f x0 x2 h s.1 s.2) (x1, x3)
noncomputable def mL_digest_l51f (x0 : Nat) (x1 : Int32) (x2 : Int32) (h : Hp) : Option ((Int32 × Int32 × Hp) ⊕ (Int32 × Hp)) :=
  (gR 15 0 x0 h).bind fun v7 =>
  b2 (mX11_count v7 (1 : Int32) h) fun v8 h9 =>
  if x2 < v8 then
  (mL_digest_l65 x0 x1 x2 (0 : Int32) h9)
  else (xt (mL_digest_l99 x0 x1 (0 : Int32) h9))
noncomputable def mL_digest_l51 (x0 : Nat) (x1 : Int32) (x2 : Int32) (h : Hp) : Option (Int32 × Hp) :=
  lp (fun s : (Int32 × Int32 × Hp) => mL_digest_l51f x0 s.1 s.2.1 s.2.2) (x1, x2, h)
noncomputable def mL_digest_l23f (x0 : Nat) (x1 : Int32) (x2 : Int32) (h : Hp) : Option ((Int32 × Int32 × Hp) ⊕ (Int32 × Hp)) :=
  if x2 < (7 : Int32) then
  ((gR 15 0 x0 h).bind fun v21 =>
  b2 (mX11_count v21 x2 h) fun v22 h23 =>
  some (.inl ((((31 : Int32) * x1) + v22), (x2 + (1 : Int32)), h23)))
  else (xt (mL_digest_l51 x0 x1 (0 : Int32) h))
noncomputable def mL_digest_l23 (x0 : Nat) (x1 : Int32) (x2 : Int32) (h : Hp) : Option (Int32 × Hp) :=
  lp (fun s : (Int32 × Int32 × Hp) => mL_digest_l23f x0 s.1 s.2.1 s.2.2) (x1, x2, h)
noncomputable def mL_digest (x0 : Nat) (h : Hp) : Option (Int32 × Hp) :=
  if (hpS h x0).1 = 16 then
  (gR 15 0 x0 h).bind fun v1 =>
  b2 (mX11_worlds v1 (1 : Int32) h) fun v2 h3 =>
  (gR 15 0 x0 h3).bind fun v4 =>
  b2 (mX11_award v4 (1 : Int32) h3) fun v5 h6 =>
  mL_digest_l23 x0 (((31 : Int32) * v2) + v5) (0 : Int32) h6
  else none

noncomputable def mL_makes_b27 (t0 : Nat) (t1 : Int32) (t2 : Int32) (h : Hp) : Option (Int32 × Hp) :=
  b2 (mX11_find t0 t1 t2 h) fun v8 h9 =>
  if v8 < 0 then
  (some ((0 : Int32), h9))
  else (some ((1 : Int32), h9))
noncomputable def mL_makes (x0 : Nat) (x1 : Int32) (x2 : Int32) (h : Hp) : Option (Int32 × Hp) :=
  if (hpS h x0).1 = 16 then
  (gR 15 0 x0 h).bind fun v1 =>
  b2 (mX11_count v1 (5 : Int32) h) fun v2 h3 =>
  if v2 = (1 : Int32) then
  ((gR 15 0 x0 h3).bind fun v7 =>
  if x2 = (1 : Int32) then
  (mL_makes_b27 v7 x1 (1 : Int32) h3)
  else (mL_makes_b27 v7 x1 (0 : Int32) h3))
  else ((gR 15 0 x0 h3).bind fun v4 =>
  b2 (mX11_answer v4 x1 x2 h3) fun v5 h6 =>
  if v5 < 0 then
  (some ((0 : Int32), h6))
  else (some ((1 : Int32), h6)))
  else none

noncomputable def mL_taken_l2f (x0 : Nat) (x1 : Int32) (x2 : Int32) (h : Hp) : Option ((Int32 × Hp) ⊕ (Int32 × Hp)) :=
  if x2 < x1 then
  ((gR 15 0 x0 h).bind fun v1 =>
  b2 (mX11_undo v1 h) fun v2 h3 =>
  if v2 < 0 then
  (xt (some ((0 : Int32), h3)))
  else (some (.inl ((x2 + (1 : Int32)), h3))))
  else (xt (some ((1 : Int32), h)))
noncomputable def mL_taken_l2 (x0 : Nat) (x1 : Int32) (x2 : Int32) (h : Hp) : Option (Int32 × Hp) :=
  lp (fun s : (Int32 × Hp) => mL_taken_l2f x0 x1 s.1 s.2) (x2, h)
noncomputable def mL_taken (x0 : Nat) (x1 : Int32) (h : Hp) : Option (Int32 × Hp) :=
  if (hpS h x0).1 = 16 then
  mL_taken_l2 x0 x1 (0 : Int32) h
  else none

noncomputable def mL_acts_b370 (x0 : Nat) (x1 : Int32) (x2 : Int32) (h : Hp) : Option ((Int32 × Hp) ⊕ (Int32 × Hp)) :=
  some (.inl ((x2 + (1 : Int32)), h))
noncomputable def mL_acts_b320 (x0 : Nat) (x1 : Int32) (x2 : Int32) (x3 : Int32) (x4 : Int32) (x7 : Int32) (h : Hp) : Option ((Int32 × Hp) ⊕ (Int32 × Hp)) :=
  if x7 < 0 then
  (mL_acts_b370 x0 x1 x2 h)
  else (b2 (mL_draw x0 (3 : Int32) h) fun v28 h29 =>
  if v28 = 0 then
  (b2 (mL_taken x0 (1 : Int32) h29) fun v30 h31 =>
  if v30 = 0 then
  (xt (some ((0 : Int32), h31)))
  else (b2 (mL_digest x0 h31) fun v32 h33 =>
  if v32 = x3 then
  ((gR 15 0 x0 h33).bind fun v34 =>
  b2 (mX11_count v34 (7 : Int32) h33) fun v35 h36 =>
  if v35 = (mmin (15 : Int32) x4) then
  (mL_acts_b370 x0 x1 x2 h36)
  else (xt (some ((0 : Int32), h36))))
  else (xt (some ((0 : Int32), h33)))))
  else (mL_acts_b370 x0 x1 x2 h29))
noncomputable def mL_acts_b267 (x0 : Nat) (x1 : Int32) (x2 : Int32) (x3 : Int32) (x4 : Int32) (x7 : Int32) (h : Hp) : Option ((Int32 × Hp) ⊕ (Int32 × Hp)) :=
  if x7 < 0 then
  (b2 (mL_digest x0 h) fun v37 h38 =>
  if v37 = x3 then
  ((gR 15 0 x0 h38).bind fun v39 =>
  b2 (mX11_count v39 (7 : Int32) h38) fun v40 h41 =>
  if v40 = x4 then
  (mL_acts_b320 x0 x1 x2 x3 x4 x7 h41)
  else (xt (some ((0 : Int32), h41))))
  else (xt (some ((0 : Int32), h38))))
  else ((gR 15 0 x0 h).bind fun v25 =>
  b2 (mX11_count v25 (7 : Int32) h) fun v26 h27 =>
  if v26 = (mmin (16 : Int32) (x4 + (1 : Int32))) then
  (mL_acts_b320 x0 x1 x2 x3 x4 x7 h27)
  else (xt (some ((0 : Int32), h27))))
noncomputable def mL_acts_b177 (x0 : Nat) (x1 : Int32) (x2 : Int32) (x3 : Int32) (x4 : Int32) (t0 : Int32) (h : Hp) : Option ((Int32 × Hp) ⊕ (Int32 × Hp)) :=
  mL_acts_b267 x0 x1 x2 x3 x4 t0 h
noncomputable def mL_acts_b174 (x0 : Nat) (x1 : Int32) (x2 : Int32) (x3 : Int32) (x4 : Int32) (t0 : Nat) (t1 : Int32) (t2 : Int32) (h : Hp) : Option ((Int32 × Hp) ⊕ (Int32 × Hp)) :=
  b2 (mX11_find t0 t1 t2 h) fun v60 h61 =>
  mL_acts_b177 x0 x1 x2 x3 x4 v60 h61
noncomputable def mL_acts_b237 (x0 : Nat) (x1 : Int32) (x2 : Int32) (x3 : Int32) (x4 : Int32) (t0 : Int32) (h : Hp) : Option ((Int32 × Hp) ⊕ (Int32 × Hp)) :=
  mL_acts_b267 x0 x1 x2 x3 x4 t0 h
noncomputable def mL_acts_l2f (x0 : Nat) (x1 : Int32) (x2 : Int32) (h : Hp) : Option ((Int32 × Hp) ⊕ (Int32 × Hp)) :=
  if x2 < x1 then
  (b2 (mL_digest x0 h) fun v1 h2 =>
  (gR 15 0 x0 h2).bind fun v3 =>
  b2 (mX11_count v3 (7 : Int32) h2) fun v4 h5 =>
  (gI 15 3 x0 h5).bind fun v6 =>
  b2 (mL_draw x0 (v6 + (1 : Int32)) h5) fun v7 h8 =>
  b2 (mL_draw x0 (2 : Int32) h8) fun v9 h10 =>
  (gR 15 0 x0 h10).bind fun v11 =>
  b2 (mX11_count v11 (2 : Int32) h10) fun v12 h13 =>
  b2 (mL_draw x0 (v12 + (1 : Int32)) h13) fun v14 h15 =>
  b2 (mL_draw x0 (8 : Int32) h15) fun v16 h17 =>
  tsw v16 (0) [(gR 15 0 x0 h17).bind fun v42 =>
  b2 (mL_draw x0 (5 : Int32) h17) fun v43 h44 =>
  b2 (mX11_answer v42 (v7 - v9) v43 h44) fun v45 h46 =>
  mL_acts_b267 x0 x1 x2 v1 v4 v45 h46,
  (gR 15 0 x0 h17).bind fun v47 =>
  b2 (mL_draw x0 (5 : Int32) h17) fun v48 h49 =>
  b2 (mX11_answer v47 (v7 - v9) v48 h49) fun v50 h51 =>
  mL_acts_b267 x0 x1 x2 v1 v4 v50 h51,
  (gR 15 0 x0 h17).bind fun v52 =>
  b2 (mX11_withdraw v52 (v7 - v9) h17) fun v53 h54 =>
  mL_acts_b267 x0 x1 x2 v1 v4 v53 h54,
  b2 (mL_draw x0 (4 : Int32) h17) fun v55 h56 =>
  if v55 = 0 then
  ((gR 15 0 x0 h56).bind fun v62 =>
  b2 (mX11_close v62 h56) fun v63 h64 =>
  mL_acts_b177 x0 x1 x2 v1 v4 v63 h64)
  else ((gR 15 0 x0 h56).bind fun v57 =>
  b2 (mL_draw x0 (2 : Int32) h56) fun v58 h59 =>
  if v58 = 0 then
  (mL_acts_b174 x0 x1 x2 v1 v4 v57 (v7 - v9) (1 : Int32) h59)
  else (mL_acts_b174 x0 x1 x2 v1 v4 v57 (v7 - v9) (0 : Int32) h59)),
  (gR 15 0 x0 h17).bind fun v65 =>
  b2 (mL_draw x0 (3 : Int32) h17) fun v66 h67 =>
  b2 (mX11_say v65 v14 (v7 - v9) v66 h67) fun v68 h69 =>
  mL_acts_b267 x0 x1 x2 v1 v4 v68 h69,
  (gR 15 0 x0 h17).bind fun v70 =>
  b2 (mL_draw x0 (3 : Int32) h17) fun v71 h72 =>
  b2 (mX11_say v70 v14 (v7 - v9) v71 h72) fun v73 h74 =>
  mL_acts_b267 x0 x1 x2 v1 v4 v73 h74,
  b2 (mL_draw x0 (3 : Int32) h17) fun v75 h76 =>
  if v75 = 0 then
  ((gR 15 0 x0 h76).bind fun v82 =>
  b2 (mX11_strike v82 v14 h76) fun v83 h84 =>
  mL_acts_b237 x0 x1 x2 v1 v4 v83 h84)
  else ((gR 15 0 x0 h76).bind fun v77 =>
  b2 (mL_draw x0 (200 : Int32) h76) fun v78 h79 =>
  b2 (mX11_days v77 v78 h79) fun v80 h81 =>
  mL_acts_b237 x0 x1 x2 v1 v4 v80 h81)] ((gR 15 0 x0 h17).bind fun v18 =>
  b2 (mL_draw x0 (1000 : Int32) h17) fun v19 h20 =>
  b2 (mL_draw x0 (700 : Int32) h20) fun v21 h22 =>
  b2 (mX11_add v18 v14 v19 v21 h22) fun v23 h24 =>
  mL_acts_b267 x0 x1 x2 v1 v4 v23 h24))
  else (xt (some ((1 : Int32), h)))
noncomputable def mL_acts_l2 (x0 : Nat) (x1 : Int32) (x2 : Int32) (h : Hp) : Option (Int32 × Hp) :=
  lp (fun s : (Int32 × Hp) => mL_acts_l2f x0 x1 s.1 s.2) (x2, h)
noncomputable def mL_acts (x0 : Nat) (x1 : Int32) (h : Hp) : Option (Int32 × Hp) :=
  if (hpS h x0).1 = 16 then
  mL_acts_l2 x0 x1 (0 : Int32) h
  else none

noncomputable def mL_proved_b136 (x0 : Nat) (x5 : Int32) (x6 : Int32) (x7 : Int32) (t0 : Int32) (t1 : Int32) (h : Hp) : Option (Int32 × Hp) :=
  if t0 = t1 then
  (if (x6 &&& (x5 ^^^ (-1 : Int32))) = 0 then
  ((mJ6_bitCount_0f7a4 x5).bind fun v16 =>
  if x7 = v16 then
  (b2 (mL_taken x0 x7 h) fun v18 h19 =>
  if v18 = 0 then
  (some ((0 : Int32), h19))
  else (some ((1 : Int32), h19)))
  else (some ((0 : Int32), h)))
  else (some ((0 : Int32), h)))
  else (some ((0 : Int32), h))
noncomputable def mL_proved_b113 (x0 : Nat) (x1 : Int32) (x2 : Int32) (x5 : Int32) (x6 : Int32) (x7 : Int32) (x8 : Int32) (h : Hp) : Option ((Int32 × Int32 × Hp) ⊕ (Int32 × Hp)) :=
  some (.inl (x7, (x8 + (1 : Int32)), h))
noncomputable def mL_proved_l58f (x0 : Nat) (x1 : Int32) (x2 : Int32) (x5 : Int32) (x6 : Int32) (x7 : Int32) (x8 : Int32) (h : Hp) : Option ((Int32 × Int32 × Hp) ⊕ (Int32 × Hp)) :=
  (gI 15 3 x0 h).bind fun v12 =>
  if x8 < v12 then
  (if ((x5 >>> (x8 &&& 31)) &&& (1 : Int32)) = 0 then
  (mL_proved_b113 x0 x1 x2 x5 x6 x7 x8 h)
  else ((gR 15 0 x0 h).bind fun v20 =>
  b2 (mX11_judged v20 x1 h) fun v21 h22 =>
  if v21 = (2 : Int32) then
  (b2 (mL_makes x0 x8 ((x6 >>> (x8 &&& 31)) &&& (1 : Int32)) h22) fun v23 h24 =>
  if v23 = 0 then
  (xt (some ((0 : Int32), h24)))
  else (mL_proved_b113 x0 x1 x2 x5 x6 (x7 + (1 : Int32)) x8 h24))
  else (xt (some ((0 : Int32), h22)))))
  else (xt ((gR 15 0 x0 h).bind fun v13 =>
  b2 (mX11_judged v13 x1 h) fun v14 h15 =>
  if x2 = 0 then
  (mL_proved_b136 x0 x5 x6 x7 v14 (0 : Int32) h15)
  else (mL_proved_b136 x0 x5 x6 x7 v14 (1 : Int32) h15)))
noncomputable def mL_proved_l58 (x0 : Nat) (x1 : Int32) (x2 : Int32) (x5 : Int32) (x6 : Int32) (x7 : Int32) (x8 : Int32) (h : Hp) : Option (Int32 × Hp) :=
  lp (fun s : (Int32 × Int32 × Hp) => mL_proved_l58f x0 x1 x2 x5 x6 s.1 s.2.1 s.2.2) (x7, x8, h)
noncomputable def mL_proved (x0 : Nat) (x1 : Int32) (x2 : Int32) (h : Hp) : Option (Int32 × Hp) :=
  if (hpS h x0).1 = 16 then
  (gR 15 0 x0 h).bind fun v1 =>
  b2 (mX11_proofs v1 x1 x2 h) fun v2 h3 =>
  if v2 < (1 : Int32) then
  (some ((0 : Int32), h3))
  else (b2 (mL_draw x0 v2 h3) fun v4 h5 =>
  (gR 15 0 x0 h5).bind fun v6 =>
  b2 (mX11_proof v6 x1 x2 v4 (0 : Int32) h5) fun v7 h8 =>
  (gR 15 0 x0 h8).bind fun v9 =>
  b2 (mX11_proof v9 x1 x2 v4 (1 : Int32) h8) fun v10 h11 =>
  mL_proved_l58 x0 x1 x2 v7 v10 (0 : Int32) (0 : Int32) h11)
  else none

noncomputable def mL_judged_b544 (x0 : Nat) (x1 : Int32) (x9 : Int32) (h : Hp) : Option ((Int32 × Hp) ⊕ (Int32 × Hp)) :=
  some (.inl ((x9 + (1 : Int32)), h))
noncomputable def mL_judged_b496 (x0 : Nat) (x1 : Int32) (x9 : Int32) (x10 : Int32) (x11 : Int32) (x12 : Int32) (t0 : Int32) (t1 : Int32) (h : Hp) : Option ((Int32 × Hp) ⊕ (Int32 × Hp)) :=
  if t0 = t1 then
  (if x10 < 0 then
  (mL_judged_b544 x0 x1 x9 h)
  else (b2 (mL_makes x0 x10 x11 h) fun v42 h43 =>
  if v42 = 0 then
  (xt (some ((0 : Int32), h43)))
  else ((gR 15 0 x0 h43).bind fun v44 =>
  b2 (mX11_duel v44 x1 ((1 : Int32) - x9) h43) fun v45 h46 =>
  if v45 = x12 then
  (b2 (mL_taken x0 (1 : Int32) h46) fun v47 h48 =>
  if v47 = 0 then
  (xt (some ((0 : Int32), h48)))
  else (mL_judged_b544 x0 x1 x9 h48))
  else (xt (some ((0 : Int32), h46))))))
  else (xt (some ((0 : Int32), h)))
noncomputable def mL_judged_b486 (x0 : Nat) (x1 : Int32) (x9 : Int32) (x10 : Int32) (x11 : Int32) (x12 : Int32) (t0 : Int32) (h : Hp) : Option ((Int32 × Hp) ⊕ (Int32 × Hp)) :=
  if x11 < 0 then
  (mL_judged_b496 x0 x1 x9 x10 x11 x12 t0 (1 : Int32) h)
  else (mL_judged_b496 x0 x1 x9 x10 x11 x12 t0 (0 : Int32) h)
noncomputable def mL_judged_b473 (x0 : Nat) (x1 : Int32) (x9 : Int32) (x10 : Int32) (x11 : Int32) (x12 : Int32) (t0 : Int32) (t1 : Int32) (h : Hp) : Option ((Int32 × Hp) ⊕ (Int32 × Hp)) :=
  if t0 = t1 then
  (if x10 < 0 then
  (mL_judged_b486 x0 x1 x9 x10 x11 x12 (1 : Int32) h)
  else (mL_judged_b486 x0 x1 x9 x10 x11 x12 (0 : Int32) h))
  else (xt (some ((0 : Int32), h)))
noncomputable def mL_judged_b461 (x0 : Nat) (x1 : Int32) (x9 : Int32) (x10 : Int32) (x11 : Int32) (x12 : Int32) (t0 : Int32) (h : Hp) : Option ((Int32 × Hp) ⊕ (Int32 × Hp)) :=
  if x12 = x9 then
  (mL_judged_b473 x0 x1 x9 x10 x11 x12 t0 (1 : Int32) h)
  else (mL_judged_b473 x0 x1 x9 x10 x11 x12 t0 (0 : Int32) h)
noncomputable def mL_judged_l407f (x0 : Nat) (x1 : Int32) (x9 : Int32) (h : Hp) : Option ((Int32 × Hp) ⊕ (Int32 × Hp)) :=
  if x9 < (2 : Int32) then
  ((gR 15 0 x0 h).bind fun v33 =>
  b2 (mX11_turn v33 x1 x9 (0 : Int32) h) fun v34 h35 =>
  (gR 15 0 x0 h35).bind fun v36 =>
  b2 (mX11_turn v36 x1 x9 (1 : Int32) h35) fun v37 h38 =>
  (gR 15 0 x0 h38).bind fun v39 =>
  b2 (mX11_duel v39 x1 x9 h38) fun v40 h41 =>
  if v34 < 0 then
  (mL_judged_b461 x0 x1 x9 v34 v37 v40 (1 : Int32) h41)
  else (mL_judged_b461 x0 x1 x9 v34 v37 v40 (0 : Int32) h41))
  else (xt (b2 (mL_proved x0 x1 (1 : Int32) h) fun v29 h30 =>
  if v29 = 0 then
  (some ((0 : Int32), h30))
  else (b2 (mL_proved x0 x1 (0 : Int32) h30) fun v31 h32 =>
  if v31 = 0 then
  (some ((0 : Int32), h32))
  else (some ((1 : Int32), h32)))))
noncomputable def mL_judged_l407 (x0 : Nat) (x1 : Int32) (x9 : Int32) (h : Hp) : Option (Int32 × Hp) :=
  lp (fun s : (Int32 × Hp) => mL_judged_l407f x0 x1 s.1 s.2) (x9, h)
noncomputable def mL_judged_b374 (x0 : Nat) (x1 : Int32) (x3 : Int32) (x4 : Int32) (x8 : Int32) (x9 : Int32) (h : Hp) : Option ((Int32 × Int32 × Hp) ⊕ (Int32 × Hp)) :=
  some (.inl (x8, (x9 + (1 : Int32)), h))
noncomputable def mL_judged_l329f (x0 : Nat) (x1 : Int32) (x3 : Int32) (x4 : Int32) (x8 : Int32) (x9 : Int32) (h : Hp) : Option ((Int32 × Int32 × Hp) ⊕ (Int32 × Hp)) :=
  if x9 < (2 : Int32) then
  (b2 (mL_makes x0 x3 x9 h) fun v49 h50 =>
  if v49 = 0 then
  (mL_judged_b374 x0 x1 x3 x4 x8 x9 h50)
  else ((gR 15 0 x0 h50).bind fun v51 =>
  b2 (mX11_tries v51 x1 (0 : Int32) h50) fun v52 h53 =>
  b2 (mL_taken x0 (1 : Int32) h53) fun v54 h55 =>
  if v54 = 0 then
  (xt (some ((0 : Int32), h55)))
  else (mL_judged_b374 x0 x1 x3 x4 (mmax x8 v52) x9 h55)))
  else (xt (if x8 = (x4 - (1 : Int32)) then
  ((gR 15 0 x0 h).bind fun v26 =>
  (mX11_fact v26 x3 (2 : Int32) h).bind fun v27 =>
  if v27 = (2 : Int32) then
  (mL_judged_l407 x0 x1 (0 : Int32) h)
  else (some ((0 : Int32), h)))
  else (some ((0 : Int32), h))))
noncomputable def mL_judged_l329 (x0 : Nat) (x1 : Int32) (x3 : Int32) (x4 : Int32) (x8 : Int32) (x9 : Int32) (h : Hp) : Option (Int32 × Hp) :=
  lp (fun s : (Int32 × Int32 × Hp) => mL_judged_l329f x0 x1 x3 x4 s.1 s.2.1 s.2.2) (x8, x9, h)
noncomputable def mL_judged_b274 (x0 : Nat) (x1 : Int32) (x2 : Int32) (t0 : Nat) (t1 : Int32) (t2 : Int32) (h : Hp) : Option (Int32 × Hp) :=
  b2 (mX11_proofs t0 t1 t2 h) fun v63 h64 =>
  if v63 = 0 then
  ((gR 15 0 x0 h64).bind fun v65 =>
  b2 (mX11_duel v65 x1 (0 : Int32) h64) fun v66 h67 =>
  if v66 = x2 then
  ((gR 15 0 x0 h67).bind fun v68 =>
  b2 (mX11_duel v68 x1 (1 : Int32) h67) fun v69 h70 =>
  if v69 = x2 then
  ((gR 15 0 x0 h70).bind fun v71 =>
  b2 (mX11_issues v71 x1 h70) fun v72 h73 =>
  if v72 = 0 then
  (some ((1 : Int32), h73))
  else (some ((0 : Int32), h73)))
  else (some ((0 : Int32), h70)))
  else (some ((0 : Int32), h67)))
  else (some ((0 : Int32), h64))
noncomputable def mL_judged_b252 (x0 : Nat) (x1 : Int32) (x2 : Int32) (t0 : Nat) (t1 : Int32) (t2 : Int32) (h : Hp) : Option (Int32 × Hp) :=
  b2 (mX11_proof t0 t1 t2 (0 : Int32) (0 : Int32) h) fun v60 h61 =>
  if v60 = 0 then
  ((gR 15 0 x0 h61).bind fun v62 =>
  if x2 = 0 then
  (mL_judged_b274 x0 x1 x2 v62 x1 (1 : Int32) h61)
  else (mL_judged_b274 x0 x1 x2 v62 x1 (0 : Int32) h61))
  else (some ((0 : Int32), h61))
noncomputable def mL_judged_b230 (x0 : Nat) (x1 : Int32) (x2 : Int32) (t0 : Nat) (t1 : Int32) (t2 : Int32) (h : Hp) : Option (Int32 × Hp) :=
  b2 (mX11_proofs t0 t1 t2 h) fun v57 h58 =>
  if v57 = (1 : Int32) then
  ((gR 15 0 x0 h58).bind fun v59 =>
  if x2 = (1 : Int32) then
  (mL_judged_b252 x0 x1 x2 v59 x1 (1 : Int32) h58)
  else (mL_judged_b252 x0 x1 x2 v59 x1 (0 : Int32) h58))
  else (some ((0 : Int32), h58))
noncomputable def mL_judged_b205 (x0 : Nat) (x1 : Int32) (x2 : Int32) (x3 : Int32) (x4 : Int32) (t0 : Int32) (t1 : Int32) (h : Hp) : Option (Int32 × Hp) :=
  if t0 = t1 then
  (if x2 = (2 : Int32) then
  (mL_judged_l329 x0 x1 x3 x4 (0 : Int32) (0 : Int32) h)
  else ((gR 15 0 x0 h).bind fun v56 =>
  if x2 = (1 : Int32) then
  (mL_judged_b230 x0 x1 x2 v56 x1 (1 : Int32) h)
  else (mL_judged_b230 x0 x1 x2 v56 x1 (0 : Int32) h)))
  else (some ((0 : Int32), h))
noncomputable def mL_judged_b200 (x0 : Nat) (x1 : Int32) (x2 : Int32) (x3 : Int32) (x4 : Int32) (t0 : Int32) (h : Hp) : Option (Int32 × Hp) :=
  mL_judged_b205 x0 x1 x2 x3 x4 t0 (1 : Int32) h
noncomputable def mL_judged_b184 (x0 : Nat) (x1 : Int32) (x2 : Int32) (x3 : Int32) (x4 : Int32) (t0 : Int32) (h : Hp) : Option (Int32 × Hp) :=
  (gR 15 0 x0 h).bind fun v23 =>
  b2 (mX11_issues v23 x1 h) fun v24 h25 =>
  if v24 = 0 then
  (if 0 < x4 then
  (mL_judged_b200 x0 x1 x2 x3 x4 t0 h25)
  else (mL_judged_b205 x0 x1 x2 x3 x4 t0 (0 : Int32) h25))
  else (mL_judged_b200 x0 x1 x2 x3 x4 t0 h25)
noncomputable def mL_judged_b171 (x0 : Nat) (x1 : Int32) (x2 : Int32) (x3 : Int32) (x4 : Int32) (t0 : Int32) (t1 : Int32) (h : Hp) : Option (Int32 × Hp) :=
  if t0 = t1 then
  (if x2 = (2 : Int32) then
  (mL_judged_b184 x0 x1 x2 x3 x4 (1 : Int32) h)
  else (mL_judged_b184 x0 x1 x2 x3 x4 (0 : Int32) h))
  else (some ((0 : Int32), h))
noncomputable def mL_judged_b162 (x0 : Nat) (x1 : Int32) (x2 : Int32) (x3 : Int32) (x4 : Int32) (t0 : Int32) (h : Hp) : Option (Int32 × Hp) :=
  if x3 < 0 then
  (mL_judged_b171 x0 x1 x2 x3 x4 t0 (0 : Int32) h)
  else (mL_judged_b171 x0 x1 x2 x3 x4 t0 (1 : Int32) h)
noncomputable def mL_judged_b142 (x0 : Nat) (x1 : Int32) (x2 : Int32) (x3 : Int32) (x4 : Int32) (x5 : Int32) (t0 : Int32) (t1 : Int32) (h : Hp) : Option (Int32 × Hp) :=
  if t0 = t1 then
  (some ((0 : Int32), h))
  else (if x5 < x4 then
  (some ((0 : Int32), h))
  else (if x2 = (2 : Int32) then
  (mL_judged_b162 x0 x1 x2 x3 x4 (1 : Int32) h)
  else (mL_judged_b162 x0 x1 x2 x3 x4 (0 : Int32) h)))
noncomputable def mL_judged_b132 (x0 : Nat) (x1 : Int32) (x2 : Int32) (x3 : Int32) (x4 : Int32) (x5 : Int32) (t0 : Int32) (h : Hp) : Option (Int32 × Hp) :=
  if x4 = 0 then
  (mL_judged_b142 x0 x1 x2 x3 x4 x5 t0 (1 : Int32) h)
  else (mL_judged_b142 x0 x1 x2 x3 x4 x5 t0 (0 : Int32) h)
noncomputable def mL_judged_b117 (x0 : Nat) (x1 : Int32) (x2 : Int32) (x3 : Int32) (x4 : Int32) (x5 : Int32) (x7 : Int32) (t0 : Int32) (h : Hp) : Option (Int32 × Hp) :=
  if t0 = x7 then
  (if x2 = (2 : Int32) then
  (mL_judged_b132 x0 x1 x2 x3 x4 x5 (1 : Int32) h)
  else (mL_judged_b132 x0 x1 x2 x3 x4 x5 (0 : Int32) h))
  else (some ((0 : Int32), h))
noncomputable def mL_judged_b103 (x0 : Nat) (x1 : Int32) (x2 : Int32) (x3 : Int32) (x4 : Int32) (x5 : Int32) (x6 : Int32) (x7 : Int32) (t0 : Int32) (h : Hp) : Option (Int32 × Hp) :=
  if t0 = x6 then
  (if x2 = 0 then
  (mL_judged_b117 x0 x1 x2 x3 x4 x5 x7 (1 : Int32) h)
  else (mL_judged_b117 x0 x1 x2 x3 x4 x5 x7 (0 : Int32) h))
  else (some ((0 : Int32), h))
noncomputable def mL_judged_b91 (x0 : Nat) (x1 : Int32) (x2 : Int32) (x3 : Int32) (x4 : Int32) (x5 : Int32) (x6 : Int32) (t0 : Int32) (h : Hp) : Option (Int32 × Hp) :=
  if x2 = (1 : Int32) then
  (mL_judged_b103 x0 x1 x2 x3 x4 x5 x6 t0 (1 : Int32) h)
  else (mL_judged_b103 x0 x1 x2 x3 x4 x5 x6 t0 (0 : Int32) h)
noncomputable def mL_judged_b72 (x0 : Nat) (x1 : Int32) (x2 : Int32) (x3 : Int32) (x4 : Int32) (x5 : Int32) (t0 : Int32) (h : Hp) : Option (Int32 × Hp) :=
  (gR 15 0 x0 h).bind fun v20 =>
  b2 (mX11_chance v20 x1 (0 : Int32) h) fun v21 h22 =>
  if v21 = 0 then
  (mL_judged_b91 x0 x1 x2 x3 x4 x5 t0 (1 : Int32) h22)
  else (mL_judged_b91 x0 x1 x2 x3 x4 x5 t0 (0 : Int32) h22)
noncomputable def mL_judged (x0 : Nat) (x1 : Int32) (h : Hp) : Option (Int32 × Hp) :=
  if (hpS h x0).1 = 16 then
  (gR 15 0 x0 h).bind fun v1 =>
  b2 (mX11_judged v1 x1 h) fun v2 h3 =>
  (gR 15 0 x0 h3).bind fun v4 =>
  b2 (mX11_tries v4 x1 (1 : Int32) h3) fun v5 h6 =>
  (gR 15 0 x0 h6).bind fun v7 =>
  b2 (mX11_tries v7 x1 (0 : Int32) h6) fun v8 h9 =>
  (gI 15 3 x0 h9).bind fun v10 =>
  (gR 15 0 x0 h9).bind fun v11 =>
  b2 (mX11_count v11 (6 : Int32) h9) fun v12 h13 =>
  (gR 15 0 x0 h13).bind fun v14 =>
  b2 (mX11_chance v14 x1 (0 : Int32) h13) fun v15 h16 =>
  (gR 15 0 x0 h16).bind fun v17 =>
  b2 (mX11_chance v17 x1 (1 : Int32) h16) fun v18 h19 =>
  if v15 = v18 then
  (mL_judged_b72 x0 x1 v2 v5 v8 (v10 - v12) (1 : Int32) h19)
  else (mL_judged_b72 x0 x1 v2 v5 v8 (v10 - v12) (0 : Int32) h19)
  else none

noncomputable def mL_weighed_b261 (x3 : UInt64) (x5 : UInt64) (x7 : Int32) (t0 : Int32) (t1 : Int32) (h : Hp) : Option (Int32 × Hp) :=
  if t0 = t1 then
  (if x7 = 0 then
  ((dNN (FP.dsub x5 x3)).bind fun v34 =>
  (dabs v34).bind fun v35 =>
  if (Op.cmpValue (FP.dcmp v35 (4472406533629990549 : UInt64)) .g) < 0 then
  (some ((1 : Int32), h))
  else (some ((0 : Int32), h)))
  else (some ((0 : Int32), h)))
  else (some ((0 : Int32), h))
noncomputable def mL_weighed_b229 (x0 : Nat) (x1 : Int32) (x2 : Int32) (x3 : UInt64) (x5 : UInt64) (x7 : Int32) (x8 : Int32) (x9 : Int64) (x11 : Int64) (x13 : Int32) (h : Hp) : Option ((UInt64 × Int32 × Int32 × Hp) ⊕ (Int32 × Hp)) :=
  some (.inl (x5, x7, (x13 + (1 : Int32)), h))
noncomputable def mL_weighed_b128 (x0 : Nat) (x1 : Int32) (x2 : Int32) (x3 : UInt64) (x5 : UInt64) (x7 : Int32) (x8 : Int32) (x9 : Int64) (x11 : Int64) (x13 : Int32) (x14 : Int32) (t0 : Int64) (h : Hp) : Option ((UInt64 × Int32 × Int32 × Hp) ⊕ (Int32 × Hp)) :=
  b2 (mL_makes x0 x2 x13 h) fun v39 h40 =>
  if v39 = 0 then
  (if (lg_cmp t0 (0 : Int64)) = 0 then
  ((gR 15 0 x0 h40).bind fun v56 =>
  b2 (mX11_count v56 (7 : Int32) h40) fun v57 h58 =>
  if v57 = x14 then
  (mL_weighed_b229 x0 x1 x2 x3 x5 x7 x8 x9 x11 x13 h58)
  else (xt (some ((0 : Int32), h58))))
  else (xt (some ((0 : Int32), h40))))
  else (if 0 < (lg_cmp t0 (0 : Int64)) then
  ((dNN (FP.ddiv (FP.l2d t0) (FP.l2d x11))).bind fun v41 =>
  (gR 15 0 x0 h40).bind fun v42 =>
  b2 (mX11_chance v42 x1 (0 : Int32) h40) fun v43 h44 =>
  (dNN (FP.dmul v41 (FP.i2d v43))).bind fun v45 =>
  (gR 15 0 x0 h44).bind fun v46 =>
  b2 (mX11_chance v46 x1 (1 : Int32) h44) fun v47 h48 =>
  (dNN (FP.ddiv v45 (FP.i2d v47))).bind fun v49 =>
  (dNN (FP.dadd x5 v49)).bind fun v50 =>
  (gR 15 0 x0 h48).bind fun v51 =>
  b2 (mX11_worlds v51 (1 : Int32) h48) fun v52 h53 =>
  b2 (mL_taken x0 (1 : Int32) h53) fun v54 h55 =>
  if v54 = 0 then
  (xt (some ((0 : Int32), h55)))
  else (mL_weighed_b229 x0 x1 x2 x3 v50 (x7 - v52) x8 x9 x11 x13 h55))
  else (xt (some ((0 : Int32), h40))))
noncomputable def mL_weighed_l95f (x0 : Nat) (x1 : Int32) (x2 : Int32) (x3 : UInt64) (x8 : Int32) (x9 : Int64) (x11 : Int64) (x5 : UInt64) (x7 : Int32) (x13 : Int32) (h : Hp) : Option ((UInt64 × Int32 × Int32 × Hp) ⊕ (Int32 × Hp)) :=
  if x13 < (2 : Int32) then
  ((gR 15 0 x0 h).bind fun v36 =>
  b2 (mX11_count v36 (7 : Int32) h) fun v37 h38 =>
  if x13 = (1 : Int32) then
  (mL_weighed_b128 x0 x1 x2 x3 x5 x7 x8 x9 x11 x13 v37 x9 h38)
  else (mL_weighed_b128 x0 x1 x2 x3 x5 x7 x8 x9 x11 x13 v37 (x11 - x9) h38))
  else (xt (if (lg_cmp x9 (0 : Int64)) = 0 then
  (mL_weighed_b261 x3 x5 x7 x8 (0 : Int32) h)
  else (if (lg_cmp x9 x11) = 0 then
  (mL_weighed_b261 x3 x5 x7 x8 (1 : Int32) h)
  else (mL_weighed_b261 x3 x5 x7 x8 (2 : Int32) h))))
noncomputable def mL_weighed_l95 (x0 : Nat) (x1 : Int32) (x2 : Int32) (x3 : UInt64) (x5 : UInt64) (x7 : Int32) (x8 : Int32) (x9 : Int64) (x11 : Int64) (x13 : Int32) (h : Hp) : Option (Int32 × Hp) :=
  lp (fun s : (UInt64 × Int32 × Int32 × Hp) => mL_weighed_l95f x0 x1 x2 x3 x8 x9 x11 s.1 s.2.1 s.2.2.1 s.2.2.2) (x5, x7, x13, h)
noncomputable def mL_weighed (x0 : Nat) (x1 : Int32) (x2 : Int32) (h : Hp) : Option (Int32 × Hp) :=
  if (hpS h x0).1 = 16 then
  (gR 15 0 x0 h).bind fun v1 =>
  b2 (mX11_chance v1 x1 (0 : Int32) h) fun v2 h3 =>
  (gR 15 0 x0 h3).bind fun v4 =>
  b2 (mX11_chance v4 x1 (1 : Int32) h3) fun v5 h6 =>
  (dNN (FP.ddiv (FP.i2d v2) (FP.i2d v5))).bind fun v7 =>
  (gR 15 0 x0 h6).bind fun v8 =>
  b2 (mX11_worlds v8 (1 : Int32) h6) fun v9 h10 =>
  b2 (newO 16 4 h10) fun v12 h11 =>
  (mJ4_init_da8c8 v12 h11).bind fun h14 =>
  b2 (mJ4_append_15ec4 v12 14 h14) fun v15 h16 =>
  b2 (mL_fact x2 h16) fun v17 h18 =>
  b2 (mJ4_append_15ec4 v15 v17 h18) fun v19 h20 =>
  b2 (mJ4_toString_0e30d v19 h20) fun v21 h22 =>
  (mL_text x0 v21 h22).bind fun h24 =>
  (gR 15 0 x0 h24).bind fun v25 =>
  b2 (mX11_ask v25 h24) fun v26 h27 =>
  (gR 15 0 x0 h27).bind fun v28 =>
  (mX11_asked v28 (0 : Int32) h27).bind fun v29 =>
  (gR 15 0 x0 h27).bind fun v31 =>
  (mX11_asked v31 (1 : Int32) h27).bind fun v32 =>
  mL_weighed_l95 x0 x1 x2 v7 (0 : UInt64) v9 v26 v29.toInt64 v32.toInt64 (0 : Int32) h27
  else none

noncomputable def mL_paid_b193 (x0 : Nat) (x1 : Int32) (x2 : Int32) (x4 : Int32) (x7 : Int32) (t0 : Int32) (t1 : Int32) (h : Hp) : Option ((Int32 × Int32 × Hp) ⊕ (Int32 × Hp)) :=
  some (.inl ((t0 ||| t1), (x7 + (1 : Int32)), h))
noncomputable def mL_paid_l156f (x0 : Nat) (x1 : Int32) (x2 : Int32) (x4 : Int32) (x6 : Int32) (x7 : Int32) (h : Hp) : Option ((Int32 × Int32 × Hp) ⊕ (Int32 × Hp)) :=
  (gR 15 0 x0 h).bind fun v4 =>
  b2 (mX11_count v4 (2 : Int32) h) fun v5 h6 =>
  if x7 < v5 then
  ((gR 15 0 x0 h6).bind fun v60 =>
  b2 (mX11_of v60 x7 (9 : Int32) h6) fun v61 h62 =>
  if v61 = 0 then
  (mL_paid_b193 x0 x1 x2 x4 x7 x6 ((1 : Int32) <<< (x7 &&& 31)) h62)
  else (mL_paid_b193 x0 x1 x2 x4 x7 x6 (0 : Int32) h62))
  else (xt ((gR 15 0 x0 h6).bind fun v7 =>
  b2 (mX11_meant v7 (0 : Int32) h6) fun v8 h9 =>
  (gR 15 0 x0 h9).bind fun v10 =>
  b2 (mX11_meant v10 (1 : Int32) h9) fun v11 h12 =>
  (dNN (FP.ddiv (FP.l2d v8) (FP.l2d v11))).bind fun v13 =>
  (gR 15 0 x0 h12).bind fun v14 =>
  b2 (mX11_worlds v14 (1 : Int32) h12) fun v15 h16 =>
  if x1 = v15 then
  (if (x2 &&& (x6 ^^^ (-1 : Int32))) = 0 then
  ((mJ6_bitCount_0f7a4 x6).bind fun v17 =>
  (gR 15 0 x0 h16).bind fun v19 =>
  b2 (mX11_count v19 (3 : Int32) h16) fun v20 h21 =>
  if v17 = v20 then
  ((gR 15 0 x0 h21).bind fun v22 =>
  b2 (mX11_elect v22 (0 : Int32) h21) fun v23 h24 =>
  if v23 = x4 then
  ((gR 15 0 x0 h24).bind fun v25 =>
  b2 (mX11_elect v25 (1 : Int32) h24) fun v26 h27 =>
  (mJ6_bitCount_0f7a4 v26).bind fun v28 =>
  if v28 = x4 then
  ((gR 15 0 x0 h27).bind fun v30 =>
  b2 (mX11_award v30 (0 : Int32) h27) fun v31 h32 =>
  (dNN (FP.dsub (FP.i2d v31) (4472406533629990549 : UInt64))).bind fun v33 =>
  if (Op.cmpValue (FP.dcmp v13 v33) .g) < 0 then
  (some ((0 : Int32), h32))
  else ((gR 15 0 x0 h32).bind fun v34 =>
  b2 (mX11_award v34 (1 : Int32) h32) fun v35 h36 =>
  (dNN (FP.dadd (FP.i2d v35) (4472406533629990549 : UInt64))).bind fun v37 =>
  if 0 < (Op.cmpValue (FP.dcmp v13 v37) .l) then
  (some ((0 : Int32), h36))
  else ((gR 15 0 x0 h36).bind fun v38 =>
  b2 (mX11_worlds v38 (1 : Int32) h36) fun v39 h40 =>
  (gR 15 0 x0 h40).bind fun v41 =>
  b2 (mX11_worlds v41 (0 : Int32) h40) fun v42 h43 =>
  if v42 < v39 then
  (some ((0 : Int32), h43))
  else ((gR 15 0 x0 h43).bind fun v44 =>
  b2 (mX11_worlds v44 (1 : Int32) h43) fun v45 h46 =>
  if v45 < (1 : Int32) then
  (some ((0 : Int32), h46))
  else ((gR 15 0 x0 h46).bind fun v47 =>
  b2 (mX11_count v47 (2 : Int32) h46) fun v48 h49 =>
  b2 (mL_draw x0 ((1 : Int32) <<< (v48 &&& 31)) h49) fun v50 h51 =>
  b2 (mL_draw x0 (256 : Int32) h51) fun v52 h53 =>
  (gR 15 0 x0 h53).bind fun v54 =>
  b2 (mX11_together v54 v50 h53) fun v55 h56 =>
  if v55 = 0 then
  (some ((1 : Int32), h56))
  else ((gR 15 0 x0 h56).bind fun v57 =>
  b2 (mX11_together v57 (v50 &&& v52) h56) fun v58 h59 =>
  if v58 = (1 : Int32) then
  (some ((1 : Int32), h59))
  else (some ((0 : Int32), h59))))))))
  else (some ((0 : Int32), h27)))
  else (some ((0 : Int32), h24)))
  else (some ((0 : Int32), h21)))
  else (some ((0 : Int32), h16)))
  else (some ((0 : Int32), h16))))
noncomputable def mL_paid_l156 (x0 : Nat) (x1 : Int32) (x2 : Int32) (x4 : Int32) (x6 : Int32) (x7 : Int32) (h : Hp) : Option (Int32 × Hp) :=
  lp (fun s : (Int32 × Int32 × Hp) => mL_paid_l156f x0 x1 x2 x4 s.1 s.2.1 s.2.2) (x6, x7, h)
noncomputable def mL_paid_l114f (x0 : Nat) (x1 : Int32) (x2 : Int32) (x3 : Int32) (x4 : Int32) (x5 : Int32) (x6 : Int32) (x7 : Int32) (x8 : Int32) (h : Hp) : Option ((Int32 × Hp) ⊕ ((Int32 × Int32 × Int32 × Int32 × Int32 × Hp) ⊕ (Int32 × Hp))) :=
  if x8 < x6 then
  ((gR 15 0 x0 h).bind fun v80 =>
  b2 (mX11_outcome v80 x8 (0 : Int32) h) fun v81 h82 =>
  if v81 = x7 then
  (xt (xt (some ((0 : Int32), h82))))
  else (some (.inl ((x8 + (1 : Int32)), h82))))
  else (xt (some (.inl (x1, x2, x4, x5, (x6 + (1 : Int32)), h))))
noncomputable def mL_paid_l114 (x0 : Nat) (x1 : Int32) (x2 : Int32) (x3 : Int32) (x4 : Int32) (x5 : Int32) (x6 : Int32) (x7 : Int32) (x8 : Int32) (h : Hp) : Option ((Int32 × Int32 × Int32 × Int32 × Int32 × Hp) ⊕ (Int32 × Hp)) :=
  lp (fun s : (Int32 × Hp) => mL_paid_l114f x0 x1 x2 x3 x4 x5 x6 x7 s.1 s.2) (x8, h)
noncomputable def mL_paid_l21f (x0 : Nat) (x3 : Int32) (x1 : Int32) (x2 : Int32) (x4 : Int32) (x5 : Int32) (x6 : Int32) (h : Hp) : Option ((Int32 × Int32 × Int32 × Int32 × Int32 × Hp) ⊕ (Int32 × Hp)) :=
  if x6 < x3 then
  ((gR 15 0 x0 h).bind fun v63 =>
  b2 (mX11_outcome v63 x6 (0 : Int32) h) fun v64 h65 =>
  (gR 15 0 x0 h65).bind fun v66 =>
  b2 (mX11_outcome v66 x6 (1 : Int32) h65) fun v67 h68 =>
  (mJ6_bitCount_0f7a4 v64).bind fun v69 =>
  (gR 15 0 x0 h68).bind fun v71 =>
  b2 (mX11_outcome v71 x6 (2 : Int32) h68) fun v72 h73 =>
  if x5 < v72 then
  ((gR 15 0 x0 h73).bind fun v74 =>
  b2 (mX11_together v74 v64 h73) fun v75 h76 =>
  if v75 = (1 : Int32) then
  ((gR 15 0 x0 h76).bind fun v77 =>
  b2 (mX11_outcome v77 x6 (2 : Int32) h76) fun v78 h79 =>
  mL_paid_l114 x0 (x1 + v67) (x2 ||| v64) x3 (mmax x4 v69) v78 x6 v64 (0 : Int32) h79)
  else (xt (some ((0 : Int32), h76))))
  else (xt (some ((0 : Int32), h73))))
  else (xt (mL_paid_l156 x0 x1 x2 x4 (0 : Int32) (0 : Int32) h))
noncomputable def mL_paid_l21 (x0 : Nat) (x1 : Int32) (x2 : Int32) (x3 : Int32) (x4 : Int32) (x5 : Int32) (x6 : Int32) (h : Hp) : Option (Int32 × Hp) :=
  lp (fun s : (Int32 × Int32 × Int32 × Int32 × Int32 × Hp) => mL_paid_l21f x0 x3 s.1 s.2.1 s.2.2.1 s.2.2.2.1 s.2.2.2.2.1 s.2.2.2.2.2) (x1, x2, x4, x5, x6, h)
noncomputable def mL_paid (x0 : Nat) (h : Hp) : Option (Int32 × Hp) :=
  if (hpS h x0).1 = 16 then
  (gR 15 0 x0 h).bind fun v1 =>
  b2 (mX11_outcomes v1 h) fun v2 h3 =>
  mL_paid_l21 x0 (0 : Int32) (0 : Int32) v2 (0 : Int32) (-1 : Int32) (0 : Int32) h3
  else none

noncomputable def mL_pairs_b274 (x0 : Nat) (x1 : Int32) (t0 : Int32) (t1 : Int32) (h : Hp) : Option (Int32 × Hp) :=
  if t0 = t1 then
  ((gR 15 0 x0 h).bind fun v45 =>
  b2 (mX11_of v45 x1 (10 : Int32) h) fun v46 h47 =>
  if x1 < v46 then
  (some ((0 : Int32), h47))
  else ((gR 15 0 x0 h47).bind fun v48 =>
  (gR 15 0 x0 h47).bind fun v49 =>
  b2 (mX11_of v49 x1 (10 : Int32) h47) fun v50 h51 =>
  b2 (mX11_of v48 v50 (10 : Int32) h51) fun v52 h53 =>
  (gR 15 0 x0 h53).bind fun v54 =>
  b2 (mX11_of v54 x1 (10 : Int32) h53) fun v55 h56 =>
  if v52 = v55 then
  ((gR 15 0 x0 h56).bind fun v57 =>
  b2 (mX11_of v57 x1 (3 : Int32) h56) fun v58 h59 =>
  (gR 15 0 x0 h59).bind fun v60 =>
  b2 (mX11_of v60 x1 (2 : Int32) h59) fun v61 h62 =>
  if v61 < v58 then
  (some ((0 : Int32), h62))
  else ((gR 15 0 x0 h62).bind fun v63 =>
  b2 (mX11_of v63 x1 (4 : Int32) h62) fun v64 h65 =>
  (gR 15 0 x0 h65).bind fun v66 =>
  b2 (mX11_of v66 x1 (1 : Int32) h65) fun v67 h68 =>
  (gR 15 0 x0 h68).bind fun v69 =>
  b2 (mX11_of v69 x1 (3 : Int32) h68) fun v70 h71 =>
  if v64 = (v67 + v70) then
  ((gR 15 0 x0 h71).bind fun v72 =>
  b2 (mX11_of v72 x1 (8 : Int32) h71) fun v73 h74 =>
  (gR 15 0 x0 h74).bind fun v75 =>
  b2 (mX11_of v75 x1 (7 : Int32) h74) fun v76 h77 =>
  if (v73 &&& (v76 ^^^ (-1 : Int32))) = 0 then
  ((gR 15 0 x0 h77).bind fun v78 =>
  (mX11_grown v78 x1 (0 : Int32) h77).bind fun v79 =>
  (gR 15 0 x0 h77).bind fun v81 =>
  b2 (mX11_of v81 x1 (0 : Int32) h77) fun v82 h83 =>
  if v79 = v82 then
  ((gR 15 0 x0 h83).bind fun v84 =>
  (mX11_grown v84 x1 (9 : Int32) h83).bind fun v85 =>
  if v85 = (-2 : Int32) then
  (some ((1 : Int32), h83))
  else ((gR 15 0 x0 h83).bind fun v87 =>
  (mX11_grown v87 x1 (9 : Int32) h83).bind fun v88 =>
  (gR 15 0 x0 h83).bind fun v90 =>
  (mX11_grown v90 x1 (8 : Int32) h83).bind fun v91 =>
  if v88 < v91 then
  (some ((0 : Int32), h83))
  else (some ((1 : Int32), h83))))
  else (some ((0 : Int32), h83)))
  else (some ((0 : Int32), h77)))
  else (some ((0 : Int32), h71))))
  else (some ((0 : Int32), h56))))
  else (some ((0 : Int32), h))
noncomputable def mL_pairs_b258 (x0 : Nat) (x1 : Int32) (t0 : Int32) (h : Hp) : Option (Int32 × Hp) :=
  (gR 15 0 x0 h).bind fun v42 =>
  b2 (mX11_judged v42 x1 h) fun v43 h44 =>
  if v43 = 0 then
  (mL_pairs_b274 x0 x1 t0 (0 : Int32) h44)
  else (mL_pairs_b274 x0 x1 t0 (1 : Int32) h44)
noncomputable def mL_pairs_b239 (x0 : Nat) (x1 : Int32) (h : Hp) : Option (Int32 × Hp) :=
  (gR 15 0 x0 h).bind fun v39 =>
  b2 (mX11_together v39 ((1 : Int32) <<< (x1 &&& 31)) h) fun v40 h41 =>
  if v40 = (1 : Int32) then
  (mL_pairs_b258 x0 x1 (1 : Int32) h41)
  else (mL_pairs_b258 x0 x1 (0 : Int32) h41)
noncomputable def mL_pairs_b213 (x0 : Nat) (x1 : Int32) (x2 : Int32) (h : Hp) : Option (Int32 × Hp) :=
  (gR 15 0 x0 h).bind fun v36 =>
  b2 (mX11_judged v36 x1 h) fun v37 h38 =>
  if v37 = 0 then
  ((gR 15 0 x0 h38).bind fun v93 =>
  b2 (mX11_implied v93 x1 x2 h38) fun v94 h95 =>
  if v94 = (1 : Int32) then
  (mL_pairs_b239 x0 x1 h95)
  else (some ((0 : Int32), h95)))
  else (mL_pairs_b239 x0 x1 h38)
noncomputable def mL_pairs_b173 (x0 : Nat) (x1 : Int32) (x2 : Int32) (x3 : UInt64) (x5 : UInt64) (h : Hp) : Option (Int32 × Hp) :=
  (gR 15 0 x0 h).bind fun v33 =>
  b2 (mX11_implied v33 x1 x2 h) fun v34 h35 =>
  if v34 = (1 : Int32) then
  ((gR 15 0 x0 h35).bind fun v96 =>
  b2 (mX11_implied v96 x2 x1 h35) fun v97 h98 =>
  if v97 = (1 : Int32) then
  ((dNN (FP.dsub x3 x5)).bind fun v99 =>
  (dabs v99).bind fun v100 =>
  if 0 < (Op.cmpValue (FP.dcmp v100 (4472406533629990549 : UInt64)) .l) then
  (some ((0 : Int32), h98))
  else (mL_pairs_b213 x0 x1 x2 h98))
  else (mL_pairs_b213 x0 x1 x2 h98))
  else (mL_pairs_b213 x0 x1 x2 h35)
noncomputable def mL_pairs_b104 (x0 : Nat) (x1 : Int32) (x2 : Int32) (h : Hp) : Option (Int32 × Hp) :=
  (gR 15 0 x0 h).bind fun v16 =>
  b2 (mX11_chance v16 x1 (0 : Int32) h) fun v17 h18 =>
  (gR 15 0 x0 h18).bind fun v19 =>
  b2 (mX11_chance v19 x1 (1 : Int32) h18) fun v20 h21 =>
  (dNN (FP.ddiv (FP.i2d v17) (FP.i2d v20))).bind fun v22 =>
  (gR 15 0 x0 h21).bind fun v23 =>
  b2 (mX11_chance v23 x2 (0 : Int32) h21) fun v24 h25 =>
  (gR 15 0 x0 h25).bind fun v26 =>
  b2 (mX11_chance v26 x2 (1 : Int32) h25) fun v27 h28 =>
  (dNN (FP.ddiv (FP.i2d v24) (FP.i2d v27))).bind fun v29 =>
  (gR 15 0 x0 h28).bind fun v30 =>
  b2 (mX11_implied v30 x1 x2 h28) fun v31 h32 =>
  if v31 = (1 : Int32) then
  ((dNN (FP.dadd v29 (4472406533629990549 : UInt64))).bind fun v101 =>
  if 0 < (Op.cmpValue (FP.dcmp v22 v101) .l) then
  (some ((0 : Int32), h32))
  else (mL_pairs_b173 x0 x1 x2 v22 v29 h32))
  else (mL_pairs_b173 x0 x1 x2 v22 v29 h32)
noncomputable def mL_pairs_b75 (x0 : Nat) (x1 : Int32) (x2 : Int32) (h : Hp) : Option (Int32 × Hp) :=
  (gR 15 0 x0 h).bind fun v13 =>
  b2 (mX11_of v13 x1 (9 : Int32) h) fun v14 h15 =>
  if v14 = (2 : Int32) then
  ((gR 15 0 x0 h15).bind fun v102 =>
  b2 (mX11_clash v102 x1 x2 h15) fun v103 h104 =>
  if v103 = (1 : Int32) then
  (mL_pairs_b104 x0 x1 x2 h104)
  else (some ((0 : Int32), h104)))
  else (mL_pairs_b104 x0 x1 x2 h15)
noncomputable def mL_pairs (x0 : Nat) (x1 : Int32) (x2 : Int32) (h : Hp) : Option (Int32 × Hp) :=
  if (hpS h x0).1 = 16 then
  (gR 15 0 x0 h).bind fun v1 =>
  b2 (mX11_clash v1 x1 x2 h) fun v2 h3 =>
  (gR 15 0 x0 h3).bind fun v4 =>
  b2 (mX11_clash v4 x2 x1 h3) fun v5 h6 =>
  if v2 = v5 then
  ((gR 15 0 x0 h6).bind fun v7 =>
  b2 (mX11_implied v7 x1 x1 h6) fun v8 h9 =>
  if v8 = (1 : Int32) then
  ((gR 15 0 x0 h9).bind fun v10 =>
  b2 (mX11_clash v10 x1 x1 h9) fun v11 h12 =>
  if v11 = (1 : Int32) then
  ((gR 15 0 x0 h12).bind fun v105 =>
  b2 (mX11_of v105 x1 (9 : Int32) h12) fun v106 h107 =>
  if v106 = (1 : Int32) then
  (mL_pairs_b75 x0 x1 x2 h107)
  else ((gR 15 0 x0 h107).bind fun v108 =>
  b2 (mX11_of v108 x1 (9 : Int32) h107) fun v109 h110 =>
  if v109 = (2 : Int32) then
  (mL_pairs_b75 x0 x1 x2 h110)
  else (some ((0 : Int32), h110))))
  else (mL_pairs_b75 x0 x1 x2 h12))
  else (some ((0 : Int32), h9)))
  else (some ((0 : Int32), h6))
  else none

noncomputable def mL_lacked_b250 (x0 : Nat) (x1 : Int32) (x3 : Int32) (x4 : Int32) (x5 : Int32) (x6 : Int32) (x7 : Int32) (h : Hp) : Option ((Int32 × Int32 × Hp) ⊕ (Int32 × Hp)) :=
  some (.inl (x6, (x7 + (1 : Int32)), h))
noncomputable def mL_lacked_l191f (x0 : Nat) (x1 : Int32) (x3 : Int32) (x4 : Int32) (x5 : Int32) (x6 : Int32) (x7 : Int32) (h : Hp) : Option ((Int32 × Int32 × Hp) ⊕ (Int32 × Hp)) :=
  (gI 15 3 x0 h).bind fun v18 =>
  if x7 < v18 then
  (if ((x3 >>> (x7 &&& 31)) &&& (1 : Int32)) = 0 then
  (mL_lacked_b250 x0 x1 x3 x4 x5 x6 x7 h)
  else ((gR 15 0 x0 h).bind fun v30 =>
  b2 (mX11_of v30 x1 (9 : Int32) h) fun v31 h32 =>
  if v31 = 0 then
  (xt (some ((0 : Int32), h32)))
  else ((gR 15 0 x0 h32).bind fun v33 =>
  b2 (mX11_say v33 x1 x7 ((x4 >>> (x7 &&& 31)) &&& (1 : Int32)) h32) fun v34 h35 =>
  if v34 < 0 then
  (xt (some ((0 : Int32), h35)))
  else (mL_lacked_b250 x0 x1 x3 x4 x5 (x6 + (1 : Int32)) x7 h35))))
  else (xt ((gR 15 0 x0 h).bind fun v19 =>
  b2 (mX11_of v19 x1 (9 : Int32) h) fun v20 h21 =>
  if v20 = 0 then
  ((gR 15 0 x0 h21).bind fun v22 =>
  b2 (mX11_lacks v22 x1 (0 : Int32) h21) fun v23 h24 =>
  if v23 = 0 then
  (b2 (mL_taken x0 x6 h24) fun v25 h26 =>
  if v25 = 0 then
  (some ((0 : Int32), h26))
  else ((gR 15 0 x0 h26).bind fun v27 =>
  b2 (mX11_of v27 x1 (9 : Int32) h26) fun v28 h29 =>
  if v28 = x5 then
  (some ((1 : Int32), h29))
  else (some ((0 : Int32), h29))))
  else (some ((0 : Int32), h24)))
  else (some ((0 : Int32), h21))))
noncomputable def mL_lacked_l191 (x0 : Nat) (x1 : Int32) (x3 : Int32) (x4 : Int32) (x5 : Int32) (x6 : Int32) (x7 : Int32) (h : Hp) : Option (Int32 × Hp) :=
  lp (fun s : (Int32 × Int32 × Hp) => mL_lacked_l191f x0 x1 x3 x4 x5 s.1 s.2.1 s.2.2) (x6, x7, h)
noncomputable def mL_lacked_b137 (x0 : Nat) (x1 : Int32) (x2 : Int32) (x3 : Int32) (x4 : Int32) (x5 : Int32) (x6 : Int32) (h : Hp) : Option (Int32 × Hp) :=
  if x2 < (1 : Int32) then
  (if x2 = (-2 : Int32) then
  (some ((1 : Int32), h))
  else (if x3 = 0 then
  (if x4 = 0 then
  (some ((1 : Int32), h))
  else (some ((0 : Int32), h)))
  else (some ((0 : Int32), h))))
  else ((mJ6_bitCount_0f7a4 x3).bind fun v13 =>
  if v13 = x2 then
  ((gR 15 0 x0 h).bind fun v15 =>
  b2 (mX11_of v15 x1 (7 : Int32) h) fun v16 h17 =>
  if (x3 &&& v16) = 0 then
  (mL_lacked_l191 x0 x1 x3 x4 x5 x6 (0 : Int32) h17)
  else (some ((0 : Int32), h17)))
  else (some ((0 : Int32), h)))
noncomputable def mL_lacked_b123 (x0 : Nat) (x1 : Int32) (x2 : Int32) (x3 : Int32) (x4 : Int32) (x5 : Int32) (x6 : Int32) (h : Hp) : Option (Int32 × Hp) :=
  if x5 = (4 : Int32) then
  (if x2 = (-2 : Int32) then
  (mL_lacked_b137 x0 x1 x2 x3 x4 x5 x6 h)
  else (some ((0 : Int32), h)))
  else (mL_lacked_b137 x0 x1 x2 x3 x4 x5 x6 h)
noncomputable def mL_lacked_b108 (x0 : Nat) (x1 : Int32) (x2 : Int32) (x3 : Int32) (x4 : Int32) (x5 : Int32) (x6 : Int32) (t0 : Int32) (t1 : Int32) (h : Hp) : Option (Int32 × Hp) :=
  if t0 = t1 then
  (if x5 = (1 : Int32) then
  (if x2 = (-2 : Int32) then
  (mL_lacked_b123 x0 x1 x2 x3 x4 x5 x6 h)
  else (some ((0 : Int32), h)))
  else (mL_lacked_b123 x0 x1 x2 x3 x4 x5 x6 h))
  else (some ((0 : Int32), h))
noncomputable def mL_lacked_b98 (x0 : Nat) (x1 : Int32) (x2 : Int32) (x3 : Int32) (x4 : Int32) (x5 : Int32) (x6 : Int32) (t0 : Int32) (h : Hp) : Option (Int32 × Hp) :=
  if x4 < 0 then
  (mL_lacked_b108 x0 x1 x2 x3 x4 x5 x6 t0 (1 : Int32) h)
  else (mL_lacked_b108 x0 x1 x2 x3 x4 x5 x6 t0 (0 : Int32) h)
noncomputable def mL_lacked_b86 (x0 : Nat) (x1 : Int32) (x2 : Int32) (x3 : Int32) (x4 : Int32) (x5 : Int32) (x6 : Int32) (t0 : Int32) (t1 : Int32) (h : Hp) : Option (Int32 × Hp) :=
  if t0 = t1 then
  (if x2 < 0 then
  (mL_lacked_b98 x0 x1 x2 x3 x4 x5 x6 (1 : Int32) h)
  else (mL_lacked_b98 x0 x1 x2 x3 x4 x5 x6 (0 : Int32) h))
  else (some ((0 : Int32), h))
noncomputable def mL_lacked_b77 (x0 : Nat) (x1 : Int32) (x2 : Int32) (x3 : Int32) (x4 : Int32) (x5 : Int32) (x6 : Int32) (t0 : Int32) (h : Hp) : Option (Int32 × Hp) :=
  if x3 < 0 then
  (mL_lacked_b86 x0 x1 x2 x3 x4 x5 x6 t0 (1 : Int32) h)
  else (mL_lacked_b86 x0 x1 x2 x3 x4 x5 x6 t0 (0 : Int32) h)
noncomputable def mL_lacked_b65 (x0 : Nat) (x1 : Int32) (x2 : Int32) (x3 : Int32) (x4 : Int32) (x5 : Int32) (x6 : Int32) (t0 : Int32) (t1 : Int32) (h : Hp) : Option (Int32 × Hp) :=
  if t0 = t1 then
  (if x2 < 0 then
  (mL_lacked_b77 x0 x1 x2 x3 x4 x5 x6 (1 : Int32) h)
  else (mL_lacked_b77 x0 x1 x2 x3 x4 x5 x6 (0 : Int32) h))
  else (some ((0 : Int32), h))
noncomputable def mL_lacked_b55 (x0 : Nat) (x1 : Int32) (x2 : Int32) (x3 : Int32) (x4 : Int32) (x5 : Int32) (x6 : Int32) (t0 : Int32) (h : Hp) : Option (Int32 × Hp) :=
  if x5 = 0 then
  (mL_lacked_b65 x0 x1 x2 x3 x4 x5 x6 t0 (1 : Int32) h)
  else (mL_lacked_b65 x0 x1 x2 x3 x4 x5 x6 t0 (0 : Int32) h)
noncomputable def mL_lacked (x0 : Nat) (x1 : Int32) (h : Hp) : Option (Int32 × Hp) :=
  if (hpS h x0).1 = 16 then
  (gR 15 0 x0 h).bind fun v1 =>
  b2 (mX11_lacks v1 x1 (0 : Int32) h) fun v2 h3 =>
  (gR 15 0 x0 h3).bind fun v4 =>
  b2 (mX11_lacks v4 x1 (1 : Int32) h3) fun v5 h6 =>
  (gR 15 0 x0 h6).bind fun v7 =>
  b2 (mX11_lacks v7 x1 (2 : Int32) h6) fun v8 h9 =>
  (gR 15 0 x0 h9).bind fun v10 =>
  b2 (mX11_of v10 x1 (9 : Int32) h9) fun v11 h12 =>
  if v2 = 0 then
  (mL_lacked_b55 x0 x1 v2 v5 v8 v11 (0 : Int32) (1 : Int32) h12)
  else (mL_lacked_b55 x0 x1 v2 v5 v8 v11 (0 : Int32) (0 : Int32) h12)
  else none

noncomputable def mL_holds_b214 (x0 : Nat) (x2 : Int32) (x3 : Int32) (x4 : Int32) (h : Hp) : Option ((Int32 × Hp) ⊕ ((Int32 × Hp) ⊕ (Int32 × Hp))) :=
  b2 (mL_paid x0 h) fun v24 h25 =>
  if v24 = 0 then
  (xt (xt (some ((0 : Int32), h25))))
  else (b2 (mL_digest x0 h25) fun v26 h27 =>
  if v26 = x4 then
  (b2 (mL_acts x0 (3 : Int32) h27) fun v28 h29 =>
  if v28 = 0 then
  (xt (xt (some ((0 : Int32), h29))))
  else ((gR 15 0 x0 h29).bind fun v30 =>
  b2 (mX11_again v30 x3 h29) fun v31 h32 =>
  if v31 = 0 then
  (xt (xt (some ((0 : Int32), h32))))
  else ((gR 15 0 x0 h32).bind fun v33 =>
  b2 (mX11_count v33 (7 : Int32) h32) fun v34 h35 =>
  b2 (mL_digest x0 h35) fun v36 h37 =>
  if v36 = x4 then
  ((gR 15 0 x0 h37).bind fun v38 =>
  b2 (mX11_undo v38 h37) fun v39 h40 =>
  if v39 = (v34 - (1 : Int32)) then
  (some (.inl ((x3 + (1 : Int32)), h40)))
  else (xt (xt (some ((0 : Int32), h40)))))
  else (xt (xt (some ((0 : Int32), h37)))))))
  else (xt (xt (some ((0 : Int32), h27)))))
noncomputable def mL_holds_b208 (x0 : Nat) (x2 : Int32) (x3 : Int32) (x4 : Int32) (x5 : Int32) (x6 : Int32) (h : Hp) : Option ((Int32 × Hp) ⊕ ((Int32 × Hp) ⊕ ((Int32 × Hp) ⊕ (Int32 × Hp)))) :=
  some (.inl ((x6 + (1 : Int32)), h))
noncomputable def mL_holds_l153f (x0 : Nat) (x2 : Int32) (x3 : Int32) (x4 : Int32) (x5 : Int32) (x6 : Int32) (h : Hp) : Option ((Int32 × Hp) ⊕ ((Int32 × Hp) ⊕ ((Int32 × Hp) ⊕ (Int32 × Hp)))) :=
  (gI 15 3 x0 h).bind fun v23 =>
  if x6 < v23 then
  ((gR 15 0 x0 h).bind fun v41 =>
  b2 (mX11_count v41 (2 : Int32) h) fun v42 h43 =>
  if 0 < v42 then
  ((gR 15 0 x0 h43).bind fun v44 =>
  (mX11_fact v44 x6 (2 : Int32) h43).bind fun v45 =>
  if v45 = (2 : Int32) then
  (b2 (mL_draw x0 (2 : Int32) h43) fun v47 h48 =>
  if v47 = 0 then
  (b2 (mL_weighed x0 x5 x6 h48) fun v49 h50 =>
  if v49 = 0 then
  (xt (xt (xt (some ((0 : Int32), h50)))))
  else (mL_holds_b208 x0 x2 x3 x4 x5 x6 h50))
  else (mL_holds_b208 x0 x2 x3 x4 x5 x6 h48))
  else (mL_holds_b208 x0 x2 x3 x4 x5 x6 h43))
  else (xt (mL_holds_b214 x0 x2 x3 x4 h43)))
  else (xt (mL_holds_b214 x0 x2 x3 x4 h))
noncomputable def mL_holds_l153 (x0 : Nat) (x2 : Int32) (x3 : Int32) (x4 : Int32) (x5 : Int32) (x6 : Int32) (h : Hp) : Option ((Int32 × Hp) ⊕ ((Int32 × Hp) ⊕ (Int32 × Hp))) :=
  lp (fun s : (Int32 × Hp) => mL_holds_l153f x0 x2 x3 x4 x5 s.1 s.2) (x6, h)
noncomputable def mL_holds_b150 (x0 : Nat) (x2 : Int32) (x3 : Int32) (x4 : Int32) (x5 : Int32) (h : Hp) : Option ((Int32 × Hp) ⊕ ((Int32 × Hp) ⊕ (Int32 × Hp))) :=
  mL_holds_l153 x0 x2 x3 x4 x5 (0 : Int32) h
noncomputable def mL_holds_l41f (x0 : Nat) (x2 : Int32) (x3 : Int32) (h : Hp) : Option ((Int32 × Hp) ⊕ ((Int32 × Hp) ⊕ (Int32 × Hp))) :=
  if x3 < (2 : Int32) then
  (b2 (mL_draw x0 (6 : Int32) h) fun v6 h7 =>
  b2 (mL_acts x0 ((3 : Int32) + v6) h7) fun v8 h9 =>
  if v8 = 0 then
  (xt (xt (some ((0 : Int32), h9))))
  else ((gR 15 0 x0 h9).bind fun v10 =>
  b2 (mX11_keep v10 x3 h9) fun v11 h12 =>
  if v11 = 0 then
  (xt (xt (some ((0 : Int32), h12))))
  else (b2 (mL_digest x0 h12) fun v13 h14 =>
  (gR 15 0 x0 h14).bind fun v15 =>
  b2 (mX11_count v15 (2 : Int32) h14) fun v16 h17 =>
  b2 (mL_draw x0 (mmax (1 : Int32) v16) h17) fun v18 h19 =>
  (gR 15 0 x0 h19).bind fun v20 =>
  b2 (mX11_count v20 (2 : Int32) h19) fun v21 h22 =>
  if 0 < v21 then
  (b2 (mL_judged x0 v18 h22) fun v51 h52 =>
  if v51 = 0 then
  (xt (xt (some ((0 : Int32), h52))))
  else ((gR 15 0 x0 h52).bind fun v53 =>
  b2 (mX11_count v53 (2 : Int32) h52) fun v54 h55 =>
  b2 (mL_draw x0 v54 h55) fun v56 h57 =>
  b2 (mL_pairs x0 v18 v56 h57) fun v58 h59 =>
  if v58 = 0 then
  (xt (xt (some ((0 : Int32), h59))))
  else (b2 (mL_lacked x0 v18 h59) fun v60 h61 =>
  if v60 = 0 then
  (xt (xt (some ((0 : Int32), h61))))
  else (mL_holds_b150 x0 x2 x3 v13 v18 h61))))
  else (mL_holds_b150 x0 x2 x3 v13 v18 h22))))
  else (xt (some (.inl ((x2 + (1 : Int32)), h))))
noncomputable def mL_holds_l41 (x0 : Nat) (x2 : Int32) (x3 : Int32) (h : Hp) : Option ((Int32 × Hp) ⊕ (Int32 × Hp)) :=
  lp (fun s : (Int32 × Hp) => mL_holds_l41f x0 x2 s.1 s.2) (x3, h)
noncomputable def mL_holds_b24 (x0 : Nat) (x2 : Int32) (t0 : Nat) (t1 : Int32) (h : Hp) : Option ((Int32 × Hp) ⊕ (Int32 × Hp)) :=
  b2 (mL_draw x0 (5 : Int32) h) fun v2 h3 =>
  b2 (mL_told t0 t1 ((1 : Int32) + v2) h3) fun v4 h5 =>
  if v4 = 0 then
  (xt (some ((0 : Int32), h5)))
  else (mL_holds_l41 x0 x2 (0 : Int32) h5)
noncomputable def mL_holds_l7f (x0 : Nat) (x2 : Int32) (h : Hp) : Option ((Int32 × Hp) ⊕ (Int32 × Hp)) :=
  if x2 < (3 : Int32) then
  (if x2 = 0 then
  (mL_holds_b24 x0 x2 x0 (8 : Int32) h)
  else (mL_holds_b24 x0 x2 x0 (6 : Int32) h))
  else (xt (some ((1 : Int32), h)))
noncomputable def mL_holds_l7 (x0 : Nat) (x2 : Int32) (h : Hp) : Option (Int32 × Hp) :=
  lp (fun s : (Int32 × Hp) => mL_holds_l7f x0 s.1 s.2) (x2, h)
noncomputable def mL_holds (x0 : Nat) (x1 : Nat) (h : Hp) : Option (Int32 × Hp) :=
  if (hpS h x0).1 = 16 then
  (sR 15 1 x0 x1 h).bind fun h1 =>
  mL_holds_l7 x0 (0 : Int32) h1
  else none

noncomputable def mL_law (x0 : Nat) (h : Hp) : Option (Int32 × Hp) :=
  b2 (newO 15 12 h) fun v2 h1 =>
  (mL_init v2 h1).bind fun h4 =>
  b2 (mL_holds v2 x0 h4) fun v5 h6 =>
  (z01 v5).bind fun v => some (v, h6)
