abbrev cX11_inLowestTerms : ByteArray := prog_1_method_64_code
def yX11_inLowestTerms : MethodName := ⟨RX11, "inLowestTerms", "(JJI)J"⟩
abbrev mi_X11_inLowestTerms : Mi := (yX11_inLowestTerms, cX11_inLowestTerms, 12, (some .long))
def iX11_inLowestTerms_0 : List (Nat × Instr × Nat) := [(0, .lload_n 2, 1), (1, .lstore 5, 2), (3, .lload_n 0, 1), (4, .lstore 7, 2), (6, .iconst 0, 1), (7, .istore 9, 2), (9, .iload 9, 2), (11, .sipush 200, 3), (14, .if_icmp .ge 31, 3), (17, .lload 7, 2), (19, .lconst 0, 1), (20, .lcmp, 1), (21, .ifCond .eq 24, 3), (24, .lload 5, 2), (26, .lload 7, 2), (28, .lrem, 1), (29, .lstore 10, 2), (31, .lload 7, 2), (33, .lstore 5, 2), (35, .lload 10, 2), (37, .lstore 7, 2), (39, .iinc 9 1, 3), (42, .goto (-33), 3), (45, .lload 5, 2), (47, .lconst 0, 1), (48, .lcmp, 1), (49, .ifCond .ne 14, 3), (52, .iload 4, 2), (54, .ifCond .ne 7, 3), (57, .lconst 0, 1), (58, .goto 4, 3), (61, .lconst 1, 1), (62, .lreturn, 1), (63, .iload 4, 2), (65, .ifCond .ne 7, 3), (68, .lload_n 0, 1), (69, .goto 4, 3), (72, .lload_n 2, 1), (73, .lload 5, 2), (75, .ldiv, 1), (76, .lreturn, 1)]
theorem kX11_inLowestTerms_0 : ckI cX11_inLowestTerms iX11_inLowestTerms_0 = true := by decide +kernel
theorem my_X11_inLowestTerms : MY mi_X11_inLowestTerms 3 := ⟨tb8 (i := 28) (by decide +kernel) rfl, tb1 (i := 1) (by decide +kernel) rfl, by decide, by decide +kernel, by decide +kernel, by decide +kernel⟩
theorem st_X11_inLowestTerms : Cond.static mi_X11_inLowestTerms.1 ∈ TB := tb8 (i := 27) (by decide +kernel) rfl
abbrev cX11_needSlot : ByteArray := prog_1_method_65_code
def yX11_needSlot : MethodName := ⟨RX11, "needSlot", "(II)I"⟩
abbrev mi_X11_needSlot : Mi := (yX11_needSlot, cX11_needSlot, 2, (some .int))
def iX11_needSlot_0 : List (Nat × Instr × Nat) := [(0, .iconst 4, 1), (1, .iload_n 0, 1), (2, .imul, 1), (3, .iload_n 1, 1), (4, .iadd, 1), (5, .ireturn, 1)]
theorem kX11_needSlot_0 : ckI cX11_needSlot iX11_needSlot_0 = true := by decide +kernel
theorem my_X11_needSlot : MY mi_X11_needSlot 2 := ⟨tb3 (i := 104) (by decide +kernel) rfl, tb1 (i := 1) (by decide +kernel) rfl, by decide, by decide +kernel, by decide +kernel, by decide +kernel⟩
theorem st_X11_needSlot : Cond.static mi_X11_needSlot.1 ∈ TB := tb3 (i := 103) (by decide +kernel) rfl
abbrev cX11_has : ByteArray := prog_1_method_66_code
def yX11_has : MethodName := ⟨RX11, "has", "(II)Z"⟩
abbrev mi_X11_has : Mi := (yX11_has, cX11_has, 2, (some .boolean))
def iX11_has_0 : List (Nat × Instr × Nat) := [(0, .iload_n 0, 1), (1, .iload_n 1, 1), (2, .ishr, 1), (3, .iconst 1, 1), (4, .iand, 1), (5, .ifCond .eq 7, 3), (8, .iconst 1, 1), (9, .goto 4, 3), (12, .iconst 0, 1), (13, .ireturn, 1)]
theorem kX11_has_0 : ckI cX11_has iX11_has_0 = true := by decide +kernel
theorem my_X11_has : MY mi_X11_has 2 := ⟨tb3 (i := 46) (by decide +kernel) rfl, tb1 (i := 1) (by decide +kernel) rfl, by decide, by decide +kernel, by decide +kernel, by decide +kernel⟩
theorem st_X11_has : Cond.static mi_X11_has.1 ∈ TB := tb3 (i := 45) (by decide +kernel) rfl
abbrev cX11_at : ByteArray := prog_1_method_67_code
def yX11_at : MethodName := ⟨RX11, "at", "([II)I"⟩
abbrev mi_X11_at : Mi := (yX11_at, cX11_at, 2, (some .int))
def iX11_at_0 : List (Nat × Instr × Nat) := [(0, .iload_n 1, 1), (1, .ifCond .lt 15, 3), (4, .iload_n 1, 1), (5, .aload_n 0, 1), (6, .arraylength, 1), (7, .if_icmp .ge 9, 3), (10, .aload_n 0, 1), (11, .iload_n 1, 1), (12, .iaload, 1), (13, .goto 4, 3), (16, .iconst 0, 1), (17, .ireturn, 1)]
theorem kX11_at_0 : ckI cX11_at iX11_at_0 = true := by decide +kernel
theorem my_X11_at : MY mi_X11_at 2 := ⟨tb2 (i := 187) (by decide +kernel) rfl, tb1 (i := 1) (by decide +kernel) rfl, by decide, by decide +kernel, by decide +kernel, by decide +kernel⟩
theorem st_X11_at : Cond.static mi_X11_at.1 ∈ TB := tb2 (i := 186) (by decide +kernel) rfl
abbrev cX11_put : ByteArray := prog_1_method_68_code
def yX11_put : MethodName := ⟨RX11, "put", "([III)V"⟩
abbrev mi_X11_put : Mi := (yX11_put, cX11_put, 3, none)
def iX11_put_0 : List (Nat × Instr × Nat) := [(0, .iload_n 1, 1), (1, .ifCond .lt 13, 3), (4, .iload_n 1, 1), (5, .aload_n 0, 1), (6, .arraylength, 1), (7, .if_icmp .ge 7, 3), (10, .aload_n 0, 1), (11, .iload_n 1, 1), (12, .iload_n 2, 1), (13, .iastore, 1), (14, .return_, 1)]
theorem kX11_put_0 : ckI cX11_put iX11_put_0 = true := by decide +kernel
theorem my_X11_put : MY mi_X11_put 3 := ⟨tb1 (i := 129) (by decide +kernel) rfl, tb1 (i := 1) (by decide +kernel) rfl, by decide, by decide +kernel, by decide +kernel, by decide +kernel⟩
theorem st_X11_put : Cond.static mi_X11_put.1 ∈ TB := tb1 (i := 128) (by decide +kernel) rfl
abbrev cX11_longAt : ByteArray := prog_1_method_69_code
def yX11_longAt : MethodName := ⟨RX11, "longAt", "([JI)J"⟩
abbrev mi_X11_longAt : Mi := (yX11_longAt, cX11_longAt, 2, (some .long))
def iX11_longAt_0 : List (Nat × Instr × Nat) := [(0, .iload_n 1, 1), (1, .ifCond .lt 15, 3), (4, .iload_n 1, 1), (5, .aload_n 0, 1), (6, .arraylength, 1), (7, .if_icmp .ge 9, 3), (10, .aload_n 0, 1), (11, .iload_n 1, 1), (12, .laload, 1), (13, .goto 4, 3), (16, .lconst 0, 1), (17, .lreturn, 1)]
theorem kX11_longAt_0 : ckI cX11_longAt iX11_longAt_0 = true := by decide +kernel
theorem my_X11_longAt : MY mi_X11_longAt 2 := ⟨tb3 (i := 90) (by decide +kernel) rfl, tb1 (i := 1) (by decide +kernel) rfl, by decide, by decide +kernel, by decide +kernel, by decide +kernel⟩
theorem st_X11_longAt : Cond.static mi_X11_longAt.1 ∈ TB := tb3 (i := 89) (by decide +kernel) rfl
abbrev cX11_putLong : ByteArray := prog_1_method_70_code
def yX11_putLong : MethodName := ⟨RX11, "putLong", "([JIJ)V"⟩
abbrev mi_X11_putLong : Mi := (yX11_putLong, cX11_putLong, 4, none)
def iX11_putLong_0 : List (Nat × Instr × Nat) := [(0, .iload_n 1, 1), (1, .ifCond .lt 13, 3), (4, .iload_n 1, 1), (5, .aload_n 0, 1), (6, .arraylength, 1), (7, .if_icmp .ge 7, 3), (10, .aload_n 0, 1), (11, .iload_n 1, 1), (12, .lload_n 2, 1), (13, .lastore, 1), (14, .return_, 1)]
theorem kX11_putLong_0 : ckI cX11_putLong iX11_putLong_0 = true := by decide +kernel
theorem my_X11_putLong : MY mi_X11_putLong 3 := ⟨tb3 (i := 93) (by decide +kernel) rfl, tb1 (i := 1) (by decide +kernel) rfl, by decide, by decide +kernel, by decide +kernel, by decide +kernel⟩
theorem st_X11_putLong : Cond.static mi_X11_putLong.1 ∈ TB := tb3 (i := 92) (by decide +kernel) rfl
abbrev cX11_wipe : ByteArray := prog_1_method_71_code
def yX11_wipe : MethodName := ⟨RX11, "wipe", "([I)V"⟩
abbrev mi_X11_wipe : Mi := (yX11_wipe, cX11_wipe, 2, none)
def iX11_wipe_0 : List (Nat × Instr × Nat) := [(0, .iconst 0, 1), (1, .istore_n 1, 1), (2, .iload_n 1, 1), (3, .aload_n 0, 1), (4, .arraylength, 1), (5, .if_icmp .ge 13, 3), (8, .aload_n 0, 1), (9, .iload_n 1, 1), (10, .iconst 0, 1), (11, .iastore, 1), (12, .iinc 1 1, 3), (15, .goto (-13), 3), (18, .return_, 1)]
theorem kX11_wipe_0 : ckI cX11_wipe iX11_wipe_0 = true := by decide +kernel
theorem my_X11_wipe : MY mi_X11_wipe 1 := ⟨tb3 (i := 26) (by decide +kernel) rfl, tb1 (i := 1) (by decide +kernel) rfl, by decide, by decide +kernel, by decide +kernel, by decide +kernel⟩
theorem st_X11_wipe : Cond.static mi_X11_wipe.1 ∈ TB := tb3 (i := 25) (by decide +kernel) rfl
abbrev cX11_copyRow : ByteArray := prog_1_method_72_code
def yX11_copyRow : MethodName := ⟨RX11, "copyRow", "([I[I)V"⟩
abbrev mi_X11_copyRow : Mi := (yX11_copyRow, cX11_copyRow, 3, none)
def iX11_copyRow_0 : List (Nat × Instr × Nat) := [(0, .iconst 0, 1), (1, .istore_n 2, 1), (2, .iload_n 2, 1), (3, .aload_n 0, 1), (4, .arraylength, 1), (5, .if_icmp .ge 21, 3), (8, .iload_n 2, 1), (9, .aload_n 1, 1), (10, .arraylength, 1), (11, .if_icmp .ge 15, 3), (14, .aload_n 1, 1), (15, .iload_n 2, 1), (16, .aload_n 0, 1), (17, .iload_n 2, 1), (18, .iaload, 1), (19, .iastore, 1), (20, .iinc 2 1, 3), (23, .goto (-21), 3), (26, .return_, 1)]
theorem kX11_copyRow_0 : ckI cX11_copyRow iX11_copyRow_0 = true := by decide +kernel
theorem my_X11_copyRow : MY mi_X11_copyRow 2 := ⟨tb8 (i := 51) (by decide +kernel) rfl, tb1 (i := 1) (by decide +kernel) rfl, by decide, by decide +kernel, by decide +kernel, by decide +kernel⟩
theorem st_X11_copyRow : Cond.static mi_X11_copyRow.1 ∈ TB := tb8 (i := 50) (by decide +kernel) rfl
abbrev cX12_init : ByteArray := prog_14_method_1_code
def yX12_init : MethodName := ⟨RX12, "<init>", "([LStruckCountsLaw$Said;[LStruckCountsLaw$Said;)V"⟩
abbrev mi_X12_init : Mi := (yX12_init, cX12_init, 3, none)
def iX12_init_0 : List (Nat × Instr × Nat) := [(0, .aload_n 0, 1), (1, .invokespecial 1, 3), (4, .aload_n 0, 1), (5, .aload_n 1, 1), (6, .putfield 7, 3), (9, .aload_n 0, 1), (10, .aload_n 2, 1), (11, .putfield 13, 3), (14, .return_, 1)]
theorem kX12_init_0 : ckI cX12_init iX12_init_0 = true := by decide +kernel
theorem my_X12_init : MY mi_X12_init 2 := ⟨tb6 (i := 23) (by decide +kernel) rfl, tb1 (i := 32) (by decide +kernel) rfl, by decide, by decide +kernel, by decide +kernel, by decide +kernel⟩
theorem is_X12_init : mi_X12_init.1.name = "<init>" ∧ Cond.instanceMethod mi_X12_init.1 ∈ TB := ⟨rfl, tb6 (i := 22) (by decide +kernel) rfl⟩
abbrev cX13_init : ByteArray := prog_15_method_1_code
def yX13_init : MethodName := ⟨RX13, "<init>", "(II[LStruckCountsLaw$Said;)V"⟩
abbrev mi_X13_init : Mi := (yX13_init, cX13_init, 4, none)
def iX13_init_0 : List (Nat × Instr × Nat) := [(0, .aload_n 0, 1), (1, .invokespecial 1, 3), (4, .aload_n 0, 1), (5, .iload_n 1, 1), (6, .putfield 7, 3), (9, .aload_n 0, 1), (10, .iload_n 2, 1), (11, .putfield 13, 3), (14, .aload_n 0, 1), (15, .aload_n 3, 1), (16, .putfield 16, 3), (19, .return_, 1)]
theorem kX13_init_0 : ckI cX13_init iX13_init_0 = true := by decide +kernel
theorem my_X13_init : MY mi_X13_init 3 := ⟨tb5 (i := 75) (by decide +kernel) rfl, tb1 (i := 29) (by decide +kernel) rfl, by decide, by decide +kernel, by decide +kernel, by decide +kernel⟩
theorem is_X13_init : mi_X13_init.1.name = "<init>" ∧ Cond.instanceMethod mi_X13_init.1 ∈ TB := ⟨rfl, tb5 (i := 74) (by decide +kernel) rfl⟩
abbrev cX13_holds : ByteArray := prog_15_method_2_code
def yX13_holds : MethodName := ⟨RX13, "holds", "(I)Z"⟩
abbrev mi_X13_holds : Mi := (yX13_holds, cX13_holds, 7, (some .boolean))
def iX13_holds_0 : List (Nat × Instr × Nat) := [(0, .aload_n 0, 1), (1, .getfield 7, 3), (4, .ifCond .ne 21, 3), (7, .iload_n 1, 1), (8, .aload_n 0, 1), (9, .getfield 13, 3), (12, .ishr, 1), (13, .iconst 1, 1), (14, .iand, 1), (15, .iconst 1, 1), (16, .if_icmp .ne 7, 3), (19, .iconst 1, 1), (20, .goto 4, 3), (23, .iconst 0, 1), (24, .ireturn, 1), (25, .iconst 0, 1), (26, .istore_n 2, 1), (27, .aload_n 0, 1), (28, .getfield 16, 3), (31, .astore_n 3, 1), (32, .aload_n 3, 1), (33, .arraylength, 1), (34, .istore 4, 2), (36, .iconst 0, 1), (37, .istore 5, 2), (39, .iload 5, 2), (41, .iload 4, 2), (43, .if_icmp .ge 32, 3), (46, .aload_n 3, 1), (47, .iload 5, 2), (49, .aaload, 1), (50, .astore 6, 2), (52, .iload_n 2, 1), (53, .aload 6, 2), (55, .iload_n 1, 1), (56, .invokevirtual 20, 3), (59, .ifCond .eq 7, 3), (62, .iconst 1, 1), (63, .goto 4, 3), (66, .iconst 0, 1), (67, .iadd, 1), (68, .istore_n 2, 1), (69, .iinc 5 1, 3), (72, .goto (-33), 3), (75, .aload_n 0, 1), (76, .getfield 7, 3), (79, .iconst 1, 1), (80, .if_icmp .ne 15, 3), (83, .iload_n 2, 1), (84, .ifCond .ne 7, 3), (87, .iconst 1, 1), (88, .goto 65, 3), (91, .iconst 0, 1), (92, .goto 61, 3), (95, .aload_n 0, 1), (96, .getfield 7, 3), (99, .iconst 2, 1), (100, .if_icmp .ne 20, 3), (103, .iload_n 2, 1), (104, .aload_n 0, 1), (105, .getfield 16, 3), (108, .arraylength, 1), (109, .if_icmp .ne 7, 3), (112, .iconst 1, 1)]
theorem kX13_holds_0 : ckI cX13_holds iX13_holds_0 = true := by decide +kernel
def iX13_holds_1 : List (Nat × Instr × Nat) := [(113, .goto 40, 3), (116, .iconst 0, 1), (117, .goto 36, 3), (120, .aload_n 0, 1), (121, .getfield 7, 3), (124, .iconst 3, 1), (125, .if_icmp .ne 15, 3), (128, .iload_n 2, 1), (129, .ifCond .le 7, 3), (132, .iconst 1, 1), (133, .goto 20, 3), (136, .iconst 0, 1), (137, .goto 16, 3), (140, .iload_n 2, 1), (141, .aload_n 0, 1), (142, .getfield 13, 3), (145, .if_icmp .lt 7, 3), (148, .iconst 1, 1), (149, .goto 4, 3), (152, .iconst 0, 1), (153, .ireturn, 1)]
theorem kX13_holds_1 : ckI cX13_holds iX13_holds_1 = true := by decide +kernel
theorem my_X13_holds : MY mi_X13_holds 1 := ⟨tb5 (i := 197) (by decide +kernel) rfl, tb1 (i := 29) (by decide +kernel) rfl, by decide, by decide +kernel, by decide +kernel, by decide +kernel⟩
theorem vs_X13_holds : Cond.instanceMethod mi_X13_holds.1 ∈ TB ∧ Cond.selects RX13 mi_X13_holds.1 mi_X13_holds.1 ∈ TB := ⟨tb5 (i := 195) (by decide +kernel) rfl, tb5 (i := 196) (by decide +kernel) rfl⟩
abbrev cX13_one : ByteArray := prog_15_method_4_code
def yX13_one : MethodName := ⟨RX13, "one", "()Ljava/lang/String;"⟩
abbrev mi_X13_one : Mi := (yX13_one, cX13_one, 1, (some (.object "java/lang/String")))
def iX13_one_0 : List (Nat × Instr × Nat) := [(0, .aload_n 0, 1), (1, .getfield 7, 3), (4, .ifCond .eq 11, 3), (7, .aload_n 0, 1), (8, .getfield 7, 3), (11, .iconst 1, 1), (12, .if_icmp .ne 10, 3), (15, .aload_n 0, 1), (16, .invokevirtual 28, 3), (19, .goto 30, 3), (22, .new 32, 3), (25, .dup, 1), (26, .invokespecial 34, 3), (29, .ldc 35, 2), (31, .invokevirtual 37, 3), (34, .aload_n 0, 1), (35, .invokevirtual 28, 3), (38, .invokevirtual 37, 3), (41, .ldc 41, 2), (43, .invokevirtual 37, 3), (46, .invokevirtual 43, 3), (49, .areturn, 1)]
theorem kX13_one_0 : ckI cX13_one iX13_one_0 = true := by decide +kernel
theorem my_X13_one : MY mi_X13_one 0 := ⟨tb5 (i := 230) (by decide +kernel) rfl, tb1 (i := 29) (by decide +kernel) rfl, by decide, by decide +kernel, by decide +kernel, by decide +kernel⟩
theorem vs_X13_one : Cond.instanceMethod mi_X13_one.1 ∈ TB ∧ Cond.selects RX13 mi_X13_one.1 mi_X13_one.1 ∈ TB := ⟨tb5 (i := 228) (by decide +kernel) rfl, tb5 (i := 229) (by decide +kernel) rfl⟩
abbrev cX13_all : ByteArray := prog_15_method_5_code
def yX13_all : MethodName := ⟨RX13, "all", "()Ljava/lang/String;"⟩
abbrev mi_X13_all : Mi := (yX13_all, cX13_all, 3, (some (.object "java/lang/String")))
def iX13_all_0 : List (Nat × Instr × Nat) := [(0, .aload_n 0, 1), (1, .getfield 7, 3), (4, .ifCond .ne 30, 3), (7, .new 32, 3), (10, .dup, 1), (11, .invokespecial 34, 3), (14, .ldc 46, 2), (16, .invokevirtual 37, 3), (19, .bipush 97, 2), (21, .aload_n 0, 1), (22, .getfield 13, 3), (25, .iadd, 1), (26, .i2c, 1), (27, .invokevirtual 48, 3), (30, .invokevirtual 43, 3), (33, .areturn, 1), (34, .aload_n 0, 1), (35, .getfield 7, 3), (38, .iconst 1, 1), (39, .if_icmp .ne 31, 3), (42, .new 32, 3), (45, .dup, 1), (46, .invokespecial 34, 3), (49, .ldc 51, 2), (51, .invokevirtual 37, 3), (54, .aload_n 0, 1), (55, .getfield 16, 3), (58, .iconst 0, 1), (59, .aaload, 1), (60, .invokevirtual 53, 3), (63, .invokevirtual 37, 3), (66, .invokevirtual 43, 3), (69, .areturn, 1), (70, .new 32, 3), (73, .dup, 1), (74, .aload_n 0, 1), (75, .getfield 7, 3), (78, .iconst 4, 1), (79, .if_icmp .ne 28, 3), (82, .new 32, 3), (85, .dup, 1), (86, .invokespecial 34, 3), (89, .aload_n 0, 1), (90, .getfield 13, 3), (93, .invokevirtual 56, 3), (96, .ldc 59, 2), (98, .invokevirtual 37, 3), (101, .invokevirtual 43, 3), (104, .goto 5, 3), (107, .ldc 46, 2), (109, .invokespecial 61, 3), (112, .astore_n 1, 1), (113, .iconst 0, 1), (114, .istore_n 2, 1), (115, .iload_n 2, 1), (116, .aload_n 0, 1), (117, .getfield 16, 3), (120, .arraylength, 1), (121, .if_icmp .ge 83, 3), (124, .aload_n 1, 1), (125, .iload_n 2, 1), (126, .ifCond .ne 8, 3), (129, .ldc 46, 2), (131, .goto 31, 3)]
theorem kX13_all_0 : ckI cX13_all iX13_all_0 = true := by decide +kernel
def iX13_all_1 : List (Nat × Instr × Nat) := [(134, .aload_n 0, 1), (135, .getfield 7, 3), (138, .iconst 2, 1), (139, .if_icmp .ne 8, 3), (142, .ldc 64, 2), (144, .goto 18, 3), (147, .aload_n 0, 1), (148, .getfield 7, 3), (151, .iconst 3, 1), (152, .if_icmp .ne 8, 3), (155, .ldc 66, 2), (157, .goto 5, 3), (160, .ldc 68, 2), (162, .invokevirtual 37, 3), (165, .aload_n 0, 1), (166, .getfield 7, 3), (169, .iconst 4, 1), (170, .if_icmp .ne 15, 3), (173, .aload_n 0, 1), (174, .getfield 16, 3), (177, .iload_n 2, 1), (178, .aaload, 1), (179, .invokevirtual 28, 3), (182, .goto 12, 3), (185, .aload_n 0, 1), (186, .getfield 16, 3), (189, .iload_n 2, 1), (190, .aaload, 1), (191, .invokevirtual 53, 3), (194, .invokevirtual 37, 3), (197, .pop, 1), (198, .iinc 2 1, 3), (201, .goto (-86), 3), (204, .aload_n 1, 1), (205, .aload_n 0, 1), (206, .getfield 7, 3), (209, .iconst 4, 1), (210, .if_icmp .ne 8, 3), (213, .ldc 41, 2), (215, .goto 5, 3), (218, .ldc 46, 2), (220, .invokevirtual 37, 3), (223, .invokevirtual 43, 3), (226, .areturn, 1)]
theorem kX13_all_1 : ckI cX13_all iX13_all_1 = true := by decide +kernel
theorem my_X13_all : MY mi_X13_all 0 := ⟨tb5 (i := 219) (by decide +kernel) rfl, tb1 (i := 29) (by decide +kernel) rfl, by decide, by decide +kernel, by decide +kernel, by decide +kernel⟩
theorem vs_X13_all : Cond.instanceMethod mi_X13_all.1 ∈ TB ∧ Cond.selects RX13 mi_X13_all.1 mi_X13_all.1 ∈ TB := ⟨tb5 (i := 217) (by decide +kernel) rfl, tb5 (i := 218) (by decide +kernel) rfl⟩
abbrev cX14_init : ByteArray := prog_16_method_1_code
def yX14_init : MethodName := ⟨RX14, "<init>", "()V"⟩
abbrev mi_X14_init : Mi := (yX14_init, cX14_init, 1, none)
def iX14_init_0 : List (Nat × Instr × Nat) := [(0, .aload_n 0, 1), (1, .invokespecial 1, 3), (4, .aload_n 0, 1), (5, .bipush 8, 2), (7, .newarray .int, 2), (9, .putfield 7, 3), (12, .aload_n 0, 1), (13, .bipush 8, 2), (15, .newarray .int, 2), (17, .putfield 13, 3), (20, .aload_n 0, 1), (21, .new 16, 3), (24, .dup, 1), (25, .invokespecial 18, 3), (28, .putfield 19, 3), (31, .return_, 1)]
theorem kX14_init_0 : ckI cX14_init iX14_init_0 = true := by decide +kernel
theorem my_X14_init : MY mi_X14_init 0 := ⟨tb4 (i := 176) (by decide +kernel) rfl, tb1 (i := 26) (by decide +kernel) rfl, by decide, by decide +kernel, by decide +kernel, by decide +kernel⟩
theorem is_X14_init : mi_X14_init.1.name = "<init>" ∧ Cond.instanceMethod mi_X14_init.1 ∈ TB := ⟨rfl, tb4 (i := 175) (by decide +kernel) rfl⟩
abbrev cJ5_init_d00df : ByteArray := prog_19_method_2_code
def yJ5_init_d00df : MethodName := ⟨RJ5, "<init>", "(I)V"⟩
abbrev mi_J5_init_d00df : Mi := (yJ5_init_d00df, cJ5_init_d00df, 2, none)
def iJ5_init_d00df_0 : List (Nat × Instr × Nat) := [(0, .aload_n 0, 1), (1, .invokespecial 3, 3), (4, .getstatic 18, 3), (7, .ifCond .eq 18, 3), (10, .aload_n 0, 1), (11, .iload_n 1, 1), (12, .newarray .byte, 2), (14, .putfield 15, 3), (17, .aload_n 0, 1), (18, .iconst 0, 1), (19, .putfield 22, 3), (22, .goto 16, 3), (25, .aload_n 0, 1), (26, .iload_n 1, 1), (27, .invokestatic 26, 3), (30, .putfield 15, 3), (33, .aload_n 0, 1), (34, .iconst 1, 1), (35, .putfield 22, 3), (38, .return_, 1)]
theorem kJ5_init_d00df_0 : ckI cJ5_init_d00df iJ5_init_d00df_0 = true := by decide +kernel
theorem my_J5_init_d00df : MY mi_J5_init_d00df 1 := ⟨tb4 (i := 200) (by decide +kernel) rfl, tb1 (i := 21) (by decide +kernel) rfl, by decide, by decide +kernel, by decide +kernel, by decide +kernel⟩
theorem is_J5_init_d00df : mi_J5_init_d00df.1.name = "<init>" ∧ Cond.instanceMethod mi_J5_init_d00df.1 ∈ TB := ⟨rfl, tb4 (i := 199) (by decide +kernel) rfl⟩
abbrev cJ5_init_a7421 : ByteArray := prog_19_method_3_code
def yJ5_init_a7421 : MethodName := ⟨RJ5, "<init>", "(Ljava/lang/String;)V"⟩
abbrev mi_J5_init_a7421 : Mi := (yJ5_init_a7421, cJ5_init_a7421, 5, none)
def iJ5_init_a7421_0 : List (Nat × Instr × Nat) := [(0, .aload_n 0, 1), (1, .invokespecial 3, 3), (4, .aload_n 1, 1), (5, .invokevirtual 32, 3), (8, .istore_n 2, 1), (9, .iload_n 2, 1), (10, .ldc 38, 2), (12, .if_icmp .ge 10, 3), (15, .iload_n 2, 1), (16, .bipush 16, 2), (18, .iadd, 1), (19, .goto 5, 3), (22, .ldc 39, 2), (24, .istore_n 3, 1), (25, .aload_n 1, 1), (26, .invokevirtual 40, 3), (29, .istore 4, 2), (31, .aload_n 0, 1), (32, .iload 4, 2), (34, .putfield 22, 3), (37, .aload_n 0, 1), (38, .iload 4, 2), (40, .ifCond .ne 9, 3), (43, .iload_n 3, 1), (44, .newarray .byte, 2), (46, .goto 7, 3), (49, .iload_n 3, 1), (50, .invokestatic 26, 3), (53, .putfield 15, 3), (56, .aload_n 0, 1), (57, .aload_n 1, 1), (58, .invokevirtual 43, 3), (61, .pop, 1), (62, .return_, 1)]
theorem kJ5_init_a7421_0 : ckI cJ5_init_a7421 iJ5_init_a7421_0 = true := by decide +kernel
theorem my_J5_init_a7421 : MY mi_J5_init_a7421 1 := ⟨tb4 (i := 40) (by decide +kernel) rfl, tb1 (i := 21) (by decide +kernel) rfl, by decide, by decide +kernel, by decide +kernel, by decide +kernel⟩
theorem is_J5_init_a7421 : mi_J5_init_a7421.1.name = "<init>" ∧ Cond.instanceMethod mi_J5_init_a7421.1 ∈ TB := ⟨rfl, tb4 (i := 39) (by decide +kernel) rfl⟩
abbrev cJ5_length_8abf5 : ByteArray := prog_19_method_6_code
def yJ5_length_8abf5 : MethodName := ⟨RJ5, "length", "()I"⟩
abbrev mi_J5_length_8abf5 : Mi := (yJ5_length_8abf5, cJ5_length_8abf5, 1, (some .int))
def iJ5_length_8abf5_0 : List (Nat × Instr × Nat) := [(0, .aload_n 0, 1), (1, .getfield 79, 3), (4, .ireturn, 1)]
theorem kJ5_length_8abf5_0 : ckI cJ5_length_8abf5 iJ5_length_8abf5_0 = true := by decide +kernel
theorem my_J5_length_8abf5 : MY mi_J5_length_8abf5 0 := ⟨tb5 (i := 4) (by decide +kernel) rfl, tb1 (i := 21) (by decide +kernel) rfl, by decide, by decide +kernel, by decide +kernel, by decide +kernel⟩
abbrev cJ5_ensureCapacityInternal_d00df : ByteArray := prog_19_method_9_code
def yJ5_ensureCapacityInternal_d00df : MethodName := ⟨RJ5, "ensureCapacityInternal", "(I)V"⟩
abbrev mi_J5_ensureCapacityInternal_d00df : Mi := (yJ5_ensureCapacityInternal_d00df, cJ5_ensureCapacityInternal_d00df, 3, none)
def iJ5_ensureCapacityInternal_d00df_0 : List (Nat × Instr × Nat) := [(0, .aload_n 0, 1), (1, .getfield 15, 3), (4, .arraylength, 1), (5, .aload_n 0, 1), (6, .getfield 22, 3), (9, .ishr, 1), (10, .istore_n 2, 1), (11, .iload_n 1, 1), (12, .iload_n 2, 1), (13, .isub, 1), (14, .ifCond .le 24, 3), (17, .aload_n 0, 1), (18, .aload_n 0, 1), (19, .getfield 15, 3), (22, .aload_n 0, 1), (23, .iload_n 1, 1), (24, .invokevirtual 104, 3), (27, .aload_n 0, 1), (28, .getfield 22, 3), (31, .ishl, 1), (32, .invokestatic 108, 3), (35, .putfield 15, 3), (38, .return_, 1)]
theorem kJ5_ensureCapacityInternal_d00df_0 : ckI cJ5_ensureCapacityInternal_d00df iJ5_ensureCapacityInternal_d00df_0 = true := by decide +kernel
theorem my_J5_ensureCapacityInternal_d00df : MY mi_J5_ensureCapacityInternal_d00df 1 := ⟨tb4 (i := 73) (by decide +kernel) rfl, tb1 (i := 21) (by decide +kernel) rfl, by decide, by decide +kernel, by decide +kernel, by decide +kernel⟩
abbrev cJ5_newCapacity_0f7a4 : ByteArray := prog_19_method_10_code
def yJ5_newCapacity_0f7a4 : MethodName := ⟨RJ5, "newCapacity", "(I)I"⟩
abbrev mi_J5_newCapacity_0f7a4 : Mi := (yJ5_newCapacity_0f7a4, cJ5_newCapacity_0f7a4, 6, (some .int))
def iJ5_newCapacity_0f7a4_0 : List (Nat × Instr × Nat) := [(0, .aload_n 0, 1), (1, .getfield 15, 3), (4, .arraylength, 1), (5, .istore_n 2, 1), (6, .iload_n 1, 1), (7, .aload_n 0, 1), (8, .getfield 22, 3), (11, .ishl, 1), (12, .istore_n 3, 1), (13, .iload_n 3, 1), (14, .iload_n 2, 1), (15, .isub, 1), (16, .istore 4, 2), (18, .iload_n 2, 1), (19, .iload 4, 2), (21, .iload_n 2, 1), (22, .iconst 2, 1), (23, .aload_n 0, 1), (24, .getfield 22, 3), (27, .ishl, 1), (28, .iadd, 1), (29, .invokestatic 114, 3), (32, .istore 5, 2), (34, .iload 5, 2), (36, .ldc 39, 2), (38, .if_icmp .ne 13, 3), (41, .new 120, 3), (44, .dup, 1), (45, .ldc 122, 2), (47, .invokespecial 124, 3), (50, .athrow, 1), (51, .iload 5, 2), (53, .aload_n 0, 1), (54, .getfield 22, 3), (57, .ishr, 1), (58, .ireturn, 1)]
theorem kJ5_newCapacity_0f7a4_0 : ckI cJ5_newCapacity_0f7a4 iJ5_newCapacity_0f7a4_0 = true := by decide +kernel
theorem my_J5_newCapacity_0f7a4 : MY mi_J5_newCapacity_0f7a4 1 := ⟨tb4 (i := 77) (by decide +kernel) rfl, tb1 (i := 21) (by decide +kernel) rfl, by decide, by decide +kernel, by decide +kernel, by decide +kernel⟩
abbrev cJ5_append_cf1ce : ByteArray := prog_19_method_22_code
def yJ5_append_cf1ce : MethodName := ⟨RJ5, "append", "(Ljava/lang/String;)Ljava/lang/AbstractStringBuilder;"⟩
abbrev mi_J5_append_cf1ce : Mi := (yJ5_append_cf1ce, cJ5_append_cf1ce, 3, (some (.object "java/lang/AbstractStringBuilder")))
def iJ5_append_cf1ce_0 : List (Nat × Instr × Nat) := [(0, .aload_n 1, 1), (1, .ifnonnull 8, 3), (4, .aload_n 0, 1), (5, .invokevirtual 204, 3), (8, .areturn, 1), (9, .aload_n 1, 1), (10, .invokevirtual 32, 3), (13, .istore_n 2, 1), (14, .aload_n 0, 1), (15, .aload_n 0, 1), (16, .getfield 79, 3), (19, .iload_n 2, 1), (20, .iadd, 1), (21, .invokevirtual 100, 3), (24, .aload_n 0, 1), (25, .aload_n 0, 1), (26, .getfield 79, 3), (29, .aload_n 1, 1), (30, .invokevirtual 208, 3), (33, .aload_n 0, 1), (34, .dup, 1), (35, .getfield 79, 3), (38, .iload_n 2, 1), (39, .iadd, 1), (40, .putfield 79, 3), (43, .aload_n 0, 1), (44, .areturn, 1)]
theorem kJ5_append_cf1ce_0 : ckI cJ5_append_cf1ce iJ5_append_cf1ce_0 = true := by decide +kernel
theorem my_J5_append_cf1ce : MY mi_J5_append_cf1ce 1 := ⟨tb4 (i := 65) (by decide +kernel) rfl, tb1 (i := 21) (by decide +kernel) rfl, by decide, by decide +kernel, by decide +kernel, by decide +kernel⟩
abbrev cJ5_append_3fe6f : ByteArray := prog_19_method_31_code
def yJ5_append_3fe6f : MethodName := ⟨RJ5, "append", "(C)Ljava/lang/AbstractStringBuilder;"⟩
abbrev mi_J5_append_3fe6f : Mi := (yJ5_append_3fe6f, cJ5_append_3fe6f, 2, (some (.object "java/lang/AbstractStringBuilder")))
def iJ5_append_3fe6f_0 : List (Nat × Instr × Nat) := [(0, .aload_n 0, 1), (1, .aload_n 0, 1), (2, .getfield 79, 3), (5, .iconst 1, 1), (6, .iadd, 1), (7, .invokevirtual 100, 3), (10, .aload_n 0, 1), (11, .invokevirtual 83, 3), (14, .ifCond .eq 31, 3), (17, .iload_n 1, 1), (18, .invokestatic 191, 3), (21, .ifCond .eq 24, 3), (24, .aload_n 0, 1), (25, .getfield 15, 3), (28, .aload_n 0, 1), (29, .dup, 1), (30, .getfield 79, 3), (33, .dup_x1, 1), (34, .iconst 1, 1), (35, .iadd, 1), (36, .putfield 79, 3), (39, .iload_n 1, 1), (40, .i2b, 1), (41, .bastore, 1), (42, .goto 33, 3), (45, .aload_n 0, 1), (46, .invokevirtual 83, 3), (49, .ifCond .eq 7, 3), (52, .aload_n 0, 1), (53, .invokevirtual 195, 3), (56, .aload_n 0, 1), (57, .getfield 15, 3), (60, .aload_n 0, 1), (61, .dup, 1), (62, .getfield 79, 3), (65, .dup_x1, 1), (66, .iconst 1, 1), (67, .iadd, 1), (68, .putfield 79, 3), (71, .iload_n 1, 1), (72, .invokestatic 197, 3), (75, .aload_n 0, 1), (76, .areturn, 1)]
theorem kJ5_append_3fe6f_0 : ckI cJ5_append_3fe6f iJ5_append_3fe6f_0 = true := by decide +kernel
theorem my_J5_append_3fe6f : MY mi_J5_append_3fe6f 1 := ⟨tb4 (i := 212) (by decide +kernel) rfl, tb1 (i := 21) (by decide +kernel) rfl, by decide, by decide +kernel, by decide +kernel, by decide +kernel⟩
abbrev cJ5_append_c97b9 : ByteArray := prog_19_method_32_code
def yJ5_append_c97b9 : MethodName := ⟨RJ5, "append", "(I)Ljava/lang/AbstractStringBuilder;"⟩
abbrev mi_J5_append_c97b9 : Mi := (yJ5_append_c97b9, cJ5_append_c97b9, 4, (some (.object "java/lang/AbstractStringBuilder")))
def iJ5_append_c97b9_0 : List (Nat × Instr × Nat) := [(0, .aload_n 0, 1), (1, .getfield 79, 3), (4, .istore_n 2, 1), (5, .iload_n 2, 1), (6, .iload_n 1, 1), (7, .invokestatic 245, 3), (10, .iadd, 1), (11, .istore_n 3, 1), (12, .aload_n 0, 1), (13, .iload_n 3, 1), (14, .invokevirtual 100, 3), (17, .aload_n 0, 1), (18, .invokevirtual 83, 3), (21, .ifCond .eq 16, 3), (24, .iload_n 1, 1), (25, .iload_n 3, 1), (26, .aload_n 0, 1), (27, .getfield 15, 3), (30, .invokestatic 248, 3), (33, .pop, 1), (34, .goto 14, 3), (37, .iload_n 1, 1), (38, .iload_n 2, 1), (39, .iload_n 3, 1), (40, .aload_n 0, 1), (41, .getfield 15, 3), (44, .invokestatic 251, 3), (47, .pop, 1), (48, .aload_n 0, 1), (49, .iload_n 3, 1), (50, .putfield 79, 3), (53, .aload_n 0, 1), (54, .areturn, 1)]
theorem kJ5_append_c97b9_0 : ckI cJ5_append_c97b9 iJ5_append_c97b9_0 = true := by decide +kernel
theorem my_J5_append_c97b9 : MY mi_J5_append_c97b9 1 := ⟨tb5 (i := 42) (by decide +kernel) rfl, tb1 (i := 21) (by decide +kernel) rfl, by decide, by decide +kernel, by decide +kernel, by decide +kernel⟩
abbrev cJ5_getValue_6d5f1 : ByteArray := prog_19_method_64_code
def yJ5_getValue_6d5f1 : MethodName := ⟨RJ5, "getValue", "()[B"⟩
abbrev mi_J5_getValue_6d5f1 : Mi := (yJ5_getValue_6d5f1, cJ5_getValue_6d5f1, 1, (some (.array .byte)))
def iJ5_getValue_6d5f1_0 : List (Nat × Instr × Nat) := [(0, .aload_n 0, 1), (1, .getfield 15, 3), (4, .areturn, 1)]
theorem kJ5_getValue_6d5f1_0 : ckI cJ5_getValue_6d5f1 iJ5_getValue_6d5f1_0 = true := by decide +kernel
theorem my_J5_getValue_6d5f1 : MY mi_J5_getValue_6d5f1 0 := ⟨tb4 (i := 236) (by decide +kernel) rfl, tb1 (i := 21) (by decide +kernel) rfl, by decide, by decide +kernel, by decide +kernel, by decide +kernel⟩
abbrev cJ5_isLatin1_aae02 : ByteArray := prog_19_method_68_code
def yJ5_isLatin1_aae02 : MethodName := ⟨RJ5, "isLatin1", "()Z"⟩
abbrev mi_J5_isLatin1_aae02 : Mi := (yJ5_isLatin1_aae02, cJ5_isLatin1_aae02, 1, (some .boolean))
def iJ5_isLatin1_aae02_0 : List (Nat × Instr × Nat) := [(0, .getstatic 18, 3), (3, .ifCond .eq 14, 3), (6, .aload_n 0, 1), (7, .getfield 22, 3), (10, .ifCond .ne 7, 3), (13, .iconst 1, 1), (14, .goto 4, 3), (17, .iconst 0, 1), (18, .ireturn, 1)]
theorem kJ5_isLatin1_aae02_0 : ckI cJ5_isLatin1_aae02 iJ5_isLatin1_aae02_0 = true := by decide +kernel
theorem my_J5_isLatin1_aae02 : MY mi_J5_isLatin1_aae02 0 := ⟨tb4 (i := 106) (by decide +kernel) rfl, tb1 (i := 21) (by decide +kernel) rfl, by decide, by decide +kernel, by decide +kernel, by decide +kernel⟩
abbrev cJ5_inflateIfNeededFor_a7421 : ByteArray := prog_19_method_71_code
def yJ5_inflateIfNeededFor_a7421 : MethodName := ⟨RJ5, "inflateIfNeededFor", "(Ljava/lang/String;)V"⟩
abbrev mi_J5_inflateIfNeededFor_a7421 : Mi := (yJ5_inflateIfNeededFor_a7421, cJ5_inflateIfNeededFor_a7421, 2, none)
def iJ5_inflateIfNeededFor_a7421_0 : List (Nat × Instr × Nat) := [(0, .getstatic 18, 3), (3, .ifCond .eq 18, 3), (6, .aload_n 0, 1), (7, .getfield 22, 3), (10, .aload_n 1, 1), (11, .invokevirtual 40, 3), (14, .if_icmp .eq 7, 3), (17, .aload_n 0, 1), (18, .invokevirtual 195, 3), (21, .return_, 1)]
theorem kJ5_inflateIfNeededFor_a7421_0 : ckI cJ5_inflateIfNeededFor_a7421 iJ5_inflateIfNeededFor_a7421_0 = true := by decide +kernel
theorem my_J5_inflateIfNeededFor_a7421 : MY mi_J5_inflateIfNeededFor_a7421 1 := ⟨tb4 (i := 130) (by decide +kernel) rfl, tb1 (i := 21) (by decide +kernel) rfl, by decide, by decide +kernel, by decide +kernel, by decide +kernel⟩
abbrev cJ5_putStringAt_47b60 : ByteArray := prog_19_method_73_code
def yJ5_putStringAt_47b60 : MethodName := ⟨RJ5, "putStringAt", "(ILjava/lang/String;)V"⟩
abbrev mi_J5_putStringAt_47b60 : Mi := (yJ5_putStringAt_47b60, cJ5_putStringAt_47b60, 3, none)
def iJ5_putStringAt_47b60_0 : List (Nat × Instr × Nat) := [(0, .aload_n 0, 1), (1, .aload_n 2, 1), (2, .invokevirtual 397, 3), (5, .aload_n 2, 1), (6, .aload_n 0, 1), (7, .getfield 15, 3), (10, .iload_n 1, 1), (11, .aload_n 0, 1), (12, .getfield 22, 3), (15, .invokevirtual 399, 3), (18, .return_, 1)]
theorem kJ5_putStringAt_47b60_0 : ckI cJ5_putStringAt_47b60 iJ5_putStringAt_47b60_0 = true := by decide +kernel
theorem my_J5_putStringAt_47b60 : MY mi_J5_putStringAt_47b60 2 := ⟨tb4 (i := 126) (by decide +kernel) rfl, tb1 (i := 21) (by decide +kernel) rfl, by decide, by decide +kernel, by decide +kernel, by decide +kernel⟩
abbrev cJ6_getChars_ba4f3 : ByteArray := prog_26_method_12_code
def yJ6_getChars_ba4f3 : MethodName := ⟨RJ6, "getChars", "(II[B)I"⟩
abbrev mi_J6_getChars_ba4f3 : Mi := (yJ6_getChars_ba4f3, cJ6_getChars_ba4f3, 7, (some .int))
def iJ6_getChars_ba4f3_0 : List (Nat × Instr × Nat) := [(0, .iload_n 1, 1), (1, .istore 5, 2), (3, .iload_n 0, 1), (4, .ifCond .ge 7, 3), (7, .iconst 1, 1), (8, .goto 4, 3), (11, .iconst 0, 1), (12, .istore 6, 2), (14, .iload 6, 2), (16, .ifCond .ne 6, 3), (19, .iload_n 0, 1), (20, .ineg, 1), (21, .istore_n 0, 1), (22, .iload_n 0, 1), (23, .bipush (-100), 2), (25, .if_icmp .gt 47, 3), (28, .iload_n 0, 1), (29, .bipush 100, 2), (31, .idiv, 1), (32, .istore_n 3, 1), (33, .iload_n 3, 1), (34, .bipush 100, 2), (36, .imul, 1), (37, .iload_n 0, 1), (38, .isub, 1), (39, .istore 4, 2), (41, .iload_n 3, 1), (42, .istore_n 0, 1), (43, .aload_n 2, 1), (44, .iinc 5 (-1), 3), (47, .iload 5, 2), (49, .getstatic 83, 3), (52, .iload 4, 2), (54, .baload, 1), (55, .bastore, 1), (56, .aload_n 2, 1), (57, .iinc 5 (-1), 3), (60, .iload 5, 2), (62, .getstatic 87, 3), (65, .iload 4, 2), (67, .baload, 1), (68, .bastore, 1), (69, .goto (-47), 3), (72, .aload_n 2, 1), (73, .iinc 5 (-1), 3), (76, .iload 5, 2), (78, .getstatic 83, 3), (81, .iload_n 0, 1), (82, .ineg, 1), (83, .baload, 1), (84, .bastore, 1), (85, .iload_n 0, 1), (86, .bipush (-9), 2), (88, .if_icmp .ge 16, 3), (91, .aload_n 2, 1), (92, .iinc 5 (-1), 3), (95, .iload 5, 2), (97, .getstatic 87, 3), (100, .iload_n 0, 1), (101, .ineg, 1), (102, .baload, 1), (103, .bastore, 1), (104, .iload 6, 2), (106, .ifCond .eq 12, 3)]
theorem kJ6_getChars_ba4f3_0 : ckI cJ6_getChars_ba4f3 iJ6_getChars_ba4f3_0 = true := by decide +kernel
def iJ6_getChars_ba4f3_1 : List (Nat × Instr × Nat) := [(109, .aload_n 2, 1), (110, .iinc 5 (-1), 3), (113, .iload 5, 2), (115, .bipush 45, 2), (117, .bastore, 1), (118, .iload 5, 2), (120, .ireturn, 1)]
theorem kJ6_getChars_ba4f3_1 : ckI cJ6_getChars_ba4f3 iJ6_getChars_ba4f3_1 = true := by decide +kernel
theorem my_J6_getChars_ba4f3 : MY mi_J6_getChars_ba4f3 3 := ⟨tb5 (i := 48) (by decide +kernel) rfl, tb1 (i := 28) (by decide +kernel) rfl, by decide, by decide +kernel, by decide +kernel, by decide +kernel⟩
theorem st_J6_getChars_ba4f3 : Cond.static mi_J6_getChars_ba4f3.1 ∈ TB := tb5 (i := 47) (by decide +kernel) rfl
abbrev cJ6_stringSize_0f7a4 : ByteArray := prog_26_method_13_code
def yJ6_stringSize_0f7a4 : MethodName := ⟨RJ6, "stringSize", "(I)I"⟩
abbrev mi_J6_stringSize_0f7a4 : Mi := (yJ6_stringSize_0f7a4, cJ6_stringSize_0f7a4, 4, (some .int))
def iJ6_stringSize_0f7a4_0 : List (Nat × Instr × Nat) := [(0, .iconst 1, 1), (1, .istore_n 1, 1), (2, .iload_n 0, 1), (3, .ifCond .lt 8, 3), (6, .iconst 0, 1), (7, .istore_n 1, 1), (8, .iload_n 0, 1), (9, .ineg, 1), (10, .istore_n 0, 1), (11, .bipush (-10), 2), (13, .istore_n 2, 1), (14, .iconst 1, 1), (15, .istore_n 3, 1), (16, .iload_n 3, 1), (17, .bipush 10, 2), (19, .if_icmp .ge 23, 3), (22, .iload_n 0, 1), (23, .iload_n 2, 1), (24, .if_icmp .le 7, 3), (27, .iload_n 3, 1), (28, .iload_n 1, 1), (29, .iadd, 1), (30, .ireturn, 1), (31, .bipush 10, 2), (33, .iload_n 2, 1), (34, .imul, 1), (35, .istore_n 2, 1), (36, .iinc 3 1, 3), (39, .goto (-23), 3), (42, .bipush 10, 2), (44, .iload_n 1, 1), (45, .iadd, 1), (46, .ireturn, 1)]
theorem kJ6_stringSize_0f7a4_0 : ckI cJ6_stringSize_0f7a4 iJ6_stringSize_0f7a4_0 = true := by decide +kernel
theorem my_J6_stringSize_0f7a4 : MY mi_J6_stringSize_0f7a4 1 := ⟨tb5 (i := 45) (by decide +kernel) rfl, tb1 (i := 28) (by decide +kernel) rfl, by decide, by decide +kernel, by decide +kernel, by decide +kernel⟩
theorem st_J6_stringSize_0f7a4 : Cond.static mi_J6_stringSize_0f7a4.1 ∈ TB := tb5 (i := 44) (by decide +kernel) rfl
abbrev cJ6_bitCount_0f7a4 : ByteArray := prog_26_method_49_code
def yJ6_bitCount_0f7a4 : MethodName := ⟨RJ6, "bitCount", "(I)I"⟩
abbrev mi_J6_bitCount_0f7a4 : Mi := (yJ6_bitCount_0f7a4, cJ6_bitCount_0f7a4, 1, (some .int))
def iJ6_bitCount_0f7a4_0 : List (Nat × Instr × Nat) := [(0, .iload_n 0, 1), (1, .iload_n 0, 1), (2, .iconst 1, 1), (3, .iushr, 1), (4, .ldc_w 265, 3), (7, .iand, 1), (8, .isub, 1), (9, .istore_n 0, 1), (10, .iload_n 0, 1), (11, .ldc_w 266, 3), (14, .iand, 1), (15, .iload_n 0, 1), (16, .iconst 2, 1), (17, .iushr, 1), (18, .ldc_w 266, 3), (21, .iand, 1), (22, .iadd, 1), (23, .istore_n 0, 1), (24, .iload_n 0, 1), (25, .iload_n 0, 1), (26, .iconst 4, 1), (27, .iushr, 1), (28, .iadd, 1), (29, .ldc_w 267, 3), (32, .iand, 1), (33, .istore_n 0, 1), (34, .iload_n 0, 1), (35, .iload_n 0, 1), (36, .bipush 8, 2), (38, .iushr, 1), (39, .iadd, 1), (40, .istore_n 0, 1), (41, .iload_n 0, 1), (42, .iload_n 0, 1), (43, .bipush 16, 2), (45, .iushr, 1), (46, .iadd, 1), (47, .istore_n 0, 1), (48, .iload_n 0, 1), (49, .bipush 63, 2), (51, .iand, 1), (52, .ireturn, 1)]
theorem kJ6_bitCount_0f7a4_0 : ckI cJ6_bitCount_0f7a4 iJ6_bitCount_0f7a4_0 = true := by decide +kernel
theorem my_J6_bitCount_0f7a4 : MY mi_J6_bitCount_0f7a4 1 := ⟨tb7 (i := 142) (by decide +kernel) rfl, tb1 (i := 28) (by decide +kernel) rfl, by decide, by decide +kernel, by decide +kernel, by decide +kernel⟩
theorem st_J6_bitCount_0f7a4 : Cond.static mi_J6_bitCount_0f7a4.1 ∈ TB := tb7 (i := 141) (by decide +kernel) rfl
abbrev cJ13_bitCount_95d88 : ByteArray := prog_28_method_50_code
def yJ13_bitCount_95d88 : MethodName := ⟨RJ13, "bitCount", "(J)I"⟩
abbrev mi_J13_bitCount_95d88 : Mi := (yJ13_bitCount_95d88, cJ13_bitCount_95d88, 2, (some .int))
def iJ13_bitCount_95d88_0 : List (Nat × Instr × Nat) := [(0, .lload_n 0, 1), (1, .lload_n 0, 1), (2, .iconst 1, 1), (3, .lushr, 1), (4, .ldc2_w 314, 3), (7, .land, 1), (8, .lsub, 1), (9, .lstore_n 0, 1), (10, .lload_n 0, 1), (11, .ldc2_w 316, 3), (14, .land, 1), (15, .lload_n 0, 1), (16, .iconst 2, 1), (17, .lushr, 1), (18, .ldc2_w 316, 3), (21, .land, 1), (22, .ladd, 1), (23, .lstore_n 0, 1), (24, .lload_n 0, 1), (25, .lload_n 0, 1), (26, .iconst 4, 1), (27, .lushr, 1), (28, .ladd, 1), (29, .ldc2_w 318, 3), (32, .land, 1), (33, .lstore_n 0, 1), (34, .lload_n 0, 1), (35, .lload_n 0, 1), (36, .bipush 8, 2), (38, .lushr, 1), (39, .ladd, 1), (40, .lstore_n 0, 1), (41, .lload_n 0, 1), (42, .lload_n 0, 1), (43, .bipush 16, 2), (45, .lushr, 1), (46, .ladd, 1), (47, .lstore_n 0, 1), (48, .lload_n 0, 1), (49, .lload_n 0, 1), (50, .bipush 32, 2), (52, .lushr, 1), (53, .ladd, 1), (54, .lstore_n 0, 1), (55, .lload_n 0, 1), (56, .l2i, 1), (57, .bipush 127, 2), (59, .iand, 1), (60, .ireturn, 1)]
theorem kJ13_bitCount_95d88_0 : ckI cJ13_bitCount_95d88 iJ13_bitCount_95d88_0 = true := by decide +kernel
theorem my_J13_bitCount_95d88 : MY mi_J13_bitCount_95d88 1 := ⟨tb7 (i := 14) (by decide +kernel) rfl, tb1 (i := 34) (by decide +kernel) rfl, by decide, by decide +kernel, by decide +kernel, by decide +kernel⟩
theorem st_J13_bitCount_95d88 : Cond.static mi_J13_bitCount_95d88.1 ∈ TB := tb7 (i := 13) (by decide +kernel) rfl
abbrev cJ0_init_81219 : ByteArray := prog_31_method_53_code
def yJ0_init_81219 : MethodName := ⟨RJ0, "<init>", "(Ljava/lang/StringBuilder;)V"⟩
abbrev mi_J0_init_81219 : Mi := (yJ0_init_81219, cJ0_init_81219, 2, none)
def iJ0_init_81219_0 : List (Nat × Instr × Nat) := [(0, .aload_n 0, 1), (1, .aload_n 1, 1), (2, .aconst_null, 1), (3, .invokespecial 489, 3), (6, .return_, 1)]
theorem kJ0_init_81219_0 : ckI cJ0_init_81219 iJ0_init_81219_0 = true := by decide +kernel
theorem my_J0_init_81219 : MY mi_J0_init_81219 1 := ⟨tb4 (i := 227) (by decide +kernel) rfl, tb1 (i := 4) (by decide +kernel) rfl, by decide, by decide +kernel, by decide +kernel, by decide +kernel⟩
theorem is_J0_init_81219 : mi_J0_init_81219.1.name = "<init>" ∧ Cond.instanceMethod mi_J0_init_81219.1 ∈ TB := ⟨rfl, tb4 (i := 226) (by decide +kernel) rfl⟩
abbrev cJ0_length_8abf5 : ByteArray := prog_31_method_54_code
def yJ0_length_8abf5 : MethodName := ⟨RJ0, "length", "()I"⟩
abbrev mi_J0_length_8abf5 : Mi := (yJ0_length_8abf5, cJ0_length_8abf5, 1, (some .int))
def iJ0_length_8abf5_0 : List (Nat × Instr × Nat) := [(0, .aload_n 0, 1), (1, .getfield 9, 3), (4, .arraylength, 1), (5, .aload_n 0, 1), (6, .invokevirtual 335, 3), (9, .ishr, 1), (10, .ireturn, 1)]
theorem kJ0_length_8abf5_0 : ckI cJ0_length_8abf5 iJ0_length_8abf5_0 = true := by decide +kernel
theorem my_J0_length_8abf5 : MY mi_J0_length_8abf5 0 := ⟨tb1 (i := 79) (by decide +kernel) rfl, tb1 (i := 4) (by decide +kernel) rfl, by decide, by decide +kernel, by decide +kernel, by decide +kernel⟩
theorem vs_J0_length_8abf5 : Cond.instanceMethod mi_J0_length_8abf5.1 ∈ TB ∧ Cond.selects RJ0 mi_J0_length_8abf5.1 mi_J0_length_8abf5.1 ∈ TB := ⟨tb1 (i := 77) (by decide +kernel) rfl, tb1 (i := 78) (by decide +kernel) rfl⟩
abbrev cJ0_charAt_5068e : ByteArray := prog_31_method_56_code
def yJ0_charAt_5068e : MethodName := ⟨RJ0, "charAt", "(I)C"⟩
abbrev mi_J0_charAt_5068e : Mi := (yJ0_charAt_5068e, cJ0_charAt_5068e, 2, (some .char))
def iJ0_charAt_5068e_0 : List (Nat × Instr × Nat) := [(0, .aload_n 0, 1), (1, .invokevirtual 492, 3), (4, .ifCond .eq 12, 3), (7, .aload_n 0, 1), (8, .getfield 9, 3), (11, .iload_n 1, 1), (12, .invokestatic 495, 3), (15, .ireturn, 1), (16, .aload_n 0, 1), (17, .getfield 9, 3), (20, .iload_n 1, 1), (21, .invokestatic 498, 3), (24, .ireturn, 1)]
theorem kJ0_charAt_5068e_0 : ckI cJ0_charAt_5068e iJ0_charAt_5068e_0 = true := by decide +kernel
theorem my_J0_charAt_5068e : MY mi_J0_charAt_5068e 1 := ⟨tb1 (i := 89) (by decide +kernel) rfl, tb1 (i := 4) (by decide +kernel) rfl, by decide, by decide +kernel, by decide +kernel, by decide +kernel⟩
theorem vs_J0_charAt_5068e : Cond.instanceMethod mi_J0_charAt_5068e.1 ∈ TB ∧ Cond.selects RJ0 mi_J0_charAt_5068e.1 mi_J0_charAt_5068e.1 ∈ TB := ⟨tb1 (i := 87) (by decide +kernel) rfl, tb1 (i := 88) (by decide +kernel) rfl⟩
abbrev cJ0_indexOf_0f7a4 : ByteArray := prog_31_method_79_code
def yJ0_indexOf_0f7a4 : MethodName := ⟨RJ0, "indexOf", "(I)I"⟩
abbrev mi_J0_indexOf_0f7a4 : Mi := (yJ0_indexOf_0f7a4, cJ0_indexOf_0f7a4, 2, (some .int))
def iJ0_indexOf_0f7a4_0 : List (Nat × Instr × Nat) := [(0, .aload_n 0, 1), (1, .iload_n 1, 1), (2, .iconst 0, 1), (3, .invokevirtual 633, 3), (6, .ireturn, 1)]
theorem kJ0_indexOf_0f7a4_0 : ckI cJ0_indexOf_0f7a4 iJ0_indexOf_0f7a4_0 = true := by decide +kernel
theorem my_J0_indexOf_0f7a4 : MY mi_J0_indexOf_0f7a4 1 := ⟨tb6 (i := 113) (by decide +kernel) rfl, tb1 (i := 4) (by decide +kernel) rfl, by decide, by decide +kernel, by decide +kernel, by decide +kernel⟩
theorem vs_J0_indexOf_0f7a4 : Cond.instanceMethod mi_J0_indexOf_0f7a4.1 ∈ TB ∧ Cond.selects RJ0 mi_J0_indexOf_0f7a4.1 mi_J0_indexOf_0f7a4.1 ∈ TB := ⟨tb6 (i := 111) (by decide +kernel) rfl, tb6 (i := 112) (by decide +kernel) rfl⟩
abbrev cJ0_indexOf_7cf53 : ByteArray := prog_31_method_80_code
def yJ0_indexOf_7cf53 : MethodName := ⟨RJ0, "indexOf", "(II)I"⟩
abbrev mi_J0_indexOf_7cf53 : Mi := (yJ0_indexOf_7cf53, cJ0_indexOf_7cf53, 3, (some .int))
def iJ0_indexOf_7cf53_0 : List (Nat × Instr × Nat) := [(0, .aload_n 0, 1), (1, .invokevirtual 492, 3), (4, .ifCond .eq 19, 3), (7, .aload_n 0, 1), (8, .getfield 9, 3), (11, .iload_n 1, 1), (12, .iload_n 2, 1), (13, .aload_n 0, 1), (14, .invokevirtual 505, 3), (17, .invokestatic 637, 3), (20, .goto 16, 3), (23, .aload_n 0, 1), (24, .getfield 9, 3), (27, .iload_n 1, 1), (28, .iload_n 2, 1), (29, .aload_n 0, 1), (30, .invokevirtual 505, 3), (33, .invokestatic 640, 3), (36, .ireturn, 1)]
theorem kJ0_indexOf_7cf53_0 : ckI cJ0_indexOf_7cf53 iJ0_indexOf_7cf53_0 = true := by decide +kernel
theorem my_J0_indexOf_7cf53 : MY mi_J0_indexOf_7cf53 2 := ⟨tb6 (i := 117) (by decide +kernel) rfl, tb1 (i := 4) (by decide +kernel) rfl, by decide, by decide +kernel, by decide +kernel, by decide +kernel⟩
theorem vs_J0_indexOf_7cf53 : Cond.instanceMethod mi_J0_indexOf_7cf53.1 ∈ TB ∧ Cond.selects RJ0 mi_J0_indexOf_7cf53.1 mi_J0_indexOf_7cf53.1 ∈ TB := ⟨tb6 (i := 115) (by decide +kernel) rfl, tb6 (i := 116) (by decide +kernel) rfl⟩
abbrev cJ0_getBytes_840e7 : ByteArray := prog_31_method_147_code
def yJ0_getBytes_840e7 : MethodName := ⟨RJ0, "getBytes", "([BIB)V"⟩
abbrev mi_J0_getBytes_840e7 : Mi := (yJ0_getBytes_840e7, cJ0_getBytes_840e7, 4, none)
def iJ0_getBytes_840e7_0 : List (Nat × Instr × Nat) := [(0, .aload_n 0, 1), (1, .invokevirtual 335, 3), (4, .iload_n 3, 1), (5, .if_icmp .ne 23, 3), (8, .aload_n 0, 1), (9, .getfield 9, 3), (12, .iconst 0, 1), (13, .aload_n 1, 1), (14, .iload_n 2, 1), (15, .iload_n 3, 1), (16, .ishl, 1), (17, .aload_n 0, 1), (18, .getfield 9, 3), (21, .arraylength, 1), (22, .invokestatic 212, 3), (25, .goto 18, 3), (28, .aload_n 0, 1), (29, .getfield 9, 3), (32, .iconst 0, 1), (33, .aload_n 1, 1), (34, .iload_n 2, 1), (35, .aload_n 0, 1), (36, .getfield 9, 3), (39, .arraylength, 1), (40, .invokestatic 106, 3), (43, .return_, 1)]
theorem kJ0_getBytes_840e7_0 : ckI cJ0_getBytes_840e7 iJ0_getBytes_840e7_0 = true := by decide +kernel
theorem my_J0_getBytes_840e7 : MY mi_J0_getBytes_840e7 3 := ⟨tb4 (i := 153) (by decide +kernel) rfl, tb1 (i := 4) (by decide +kernel) rfl, by decide, by decide +kernel, by decide +kernel, by decide +kernel⟩
theorem vs_J0_getBytes_840e7 : Cond.instanceMethod mi_J0_getBytes_840e7.1 ∈ TB ∧ Cond.selects RJ0 mi_J0_getBytes_840e7.1 mi_J0_getBytes_840e7.1 ∈ TB := ⟨tb4 (i := 151) (by decide +kernel) rfl, tb4 (i := 152) (by decide +kernel) rfl⟩
abbrev cJ0_init_db425 : ByteArray := prog_31_method_150_code
def yJ0_init_db425 : MethodName := ⟨RJ0, "<init>", "(Ljava/lang/AbstractStringBuilder;Ljava/lang/Void;)V"⟩
abbrev mi_J0_init_db425 : Mi := (yJ0_init_db425, cJ0_init_db425, 5, none)
def iJ0_init_db425_0 : List (Nat × Instr × Nat) := [(0, .aload_n 0, 1), (1, .invokespecial 1, 3), (4, .aload_n 1, 1), (5, .invokevirtual 552, 3), (8, .astore_n 3, 1), (9, .aload_n 1, 1), (10, .invokevirtual 549, 3), (13, .istore 4, 2), (15, .aload_n 1, 1), (16, .invokevirtual 1047, 3), (19, .ifCond .eq 22, 3), (22, .aload_n 0, 1), (23, .iconst 0, 1), (24, .putfield 15, 3), (27, .aload_n 0, 1), (28, .aload_n 3, 1), (29, .iconst 0, 1), (30, .iload 4, 2), (32, .invokestatic 54, 3), (35, .putfield 9, 3), (38, .goto 59, 3), (41, .getstatic 38, 3), (44, .ifCond .eq 35, 3), (47, .aload_n 1, 1), (48, .getfield 1048, 3), (51, .ifCond .eq 28, 3), (54, .aload_n 0, 1), (55, .aload_n 3, 1), (56, .iconst 0, 1), (57, .iload 4, 2), (59, .invokestatic 1051, 3), (62, .putfield 9, 3), (65, .aload_n 0, 1), (66, .aload_n 0, 1), (67, .getfield 9, 3), (70, .iload 4, 2), (72, .invokestatic 47, 3), (75, .putfield 15, 3), (78, .return_, 1), (79, .aload_n 0, 1), (80, .iconst 1, 1), (81, .putfield 15, 3), (84, .aload_n 0, 1), (85, .aload_n 3, 1), (86, .iconst 0, 1), (87, .iload 4, 2), (89, .iconst 1, 1), (90, .ishl, 1), (91, .invokestatic 54, 3), (94, .putfield 9, 3), (97, .return_, 1)]
theorem kJ0_init_db425_0 : ckI cJ0_init_db425 iJ0_init_db425_0 = true := by decide +kernel
theorem my_J0_init_db425 : MY mi_J0_init_db425 2 := ⟨tb4 (i := 230) (by decide +kernel) rfl, tb1 (i := 4) (by decide +kernel) rfl, by decide, by decide +kernel, by decide +kernel, by decide +kernel⟩
theorem is_J0_init_db425 : mi_J0_init_db425.1.name = "<init>" ∧ Cond.instanceMethod mi_J0_init_db425.1 ∈ TB := ⟨rfl, tb4 (i := 229) (by decide +kernel) rfl⟩
abbrev cJ0_coder_7d493 : ByteArray := prog_31_method_152_code
def yJ0_coder_7d493 : MethodName := ⟨RJ0, "coder", "()B"⟩
abbrev mi_J0_coder_7d493 : Mi := (yJ0_coder_7d493, cJ0_coder_7d493, 1, (some .byte))
def iJ0_coder_7d493_0 : List (Nat × Instr × Nat) := [(0, .getstatic 38, 3), (3, .ifCond .eq 10, 3), (6, .aload_n 0, 1), (7, .getfield 15, 3), (10, .goto 4, 3), (13, .iconst 1, 1), (14, .ireturn, 1)]
theorem kJ0_coder_7d493_0 : ckI cJ0_coder_7d493 iJ0_coder_7d493_0 = true := by decide +kernel
theorem my_J0_coder_7d493 : MY mi_J0_coder_7d493 0 := ⟨tb1 (i := 83) (by decide +kernel) rfl, tb1 (i := 4) (by decide +kernel) rfl, by decide, by decide +kernel, by decide +kernel, by decide +kernel⟩
theorem vs_J0_coder_7d493 : Cond.instanceMethod mi_J0_coder_7d493.1 ∈ TB ∧ Cond.selects RJ0 mi_J0_coder_7d493.1 mi_J0_coder_7d493.1 ∈ TB := ⟨tb1 (i := 81) (by decide +kernel) rfl, tb1 (i := 82) (by decide +kernel) rfl⟩
abbrev cJ0_isLatin1_aae02 : ByteArray := prog_31_method_154_code
def yJ0_isLatin1_aae02 : MethodName := ⟨RJ0, "isLatin1", "()Z"⟩
abbrev mi_J0_isLatin1_aae02 : Mi := (yJ0_isLatin1_aae02, cJ0_isLatin1_aae02, 1, (some .boolean))
def iJ0_isLatin1_aae02_0 : List (Nat × Instr × Nat) := [(0, .getstatic 38, 3), (3, .ifCond .eq 14, 3), (6, .aload_n 0, 1), (7, .getfield 15, 3), (10, .ifCond .ne 7, 3), (13, .iconst 1, 1), (14, .goto 4, 3), (17, .iconst 0, 1), (18, .ireturn, 1)]
theorem kJ0_isLatin1_aae02_0 : ckI cJ0_isLatin1_aae02 iJ0_isLatin1_aae02_0 = true := by decide +kernel
theorem my_J0_isLatin1_aae02 : MY mi_J0_isLatin1_aae02 0 := ⟨tb1 (i := 93) (by decide +kernel) rfl, tb1 (i := 4) (by decide +kernel) rfl, by decide, by decide +kernel, by decide +kernel, by decide +kernel⟩
theorem vs_J0_isLatin1_aae02 : Cond.instanceMethod mi_J0_isLatin1_aae02.1 ∈ TB ∧ Cond.selects RJ0 mi_J0_isLatin1_aae02.1 mi_J0_isLatin1_aae02.1 ∈ TB := ⟨tb1 (i := 91) (by decide +kernel) rfl, tb1 (i := 92) (by decide +kernel) rfl⟩
abbrev cJ0_checkIndex_df160 : ByteArray := prog_31_method_155_code
def yJ0_checkIndex_df160 : MethodName := ⟨RJ0, "checkIndex", "(II)V"⟩
abbrev mi_J0_checkIndex_df160 : Mi := (yJ0_checkIndex_df160, cJ0_checkIndex_df160, 2, none)
def iJ0_checkIndex_df160_0 : List (Nat × Instr × Nat) := [(0, .iload_n 0, 1), (1, .iload_n 1, 1), (2, .getstatic 1053, 3), (5, .invokestatic 1059, 3), (8, .pop, 1), (9, .return_, 1)]
theorem kJ0_checkIndex_df160_0 : ckI cJ0_checkIndex_df160 iJ0_checkIndex_df160_0 = true := by decide +kernel
theorem my_J0_checkIndex_df160 : MY mi_J0_checkIndex_df160 2 := ⟨tb1 (i := 99) (by decide +kernel) rfl, tb1 (i := 4) (by decide +kernel) rfl, by decide, by decide +kernel, by decide +kernel, by decide +kernel⟩
theorem st_J0_checkIndex_df160 : Cond.static mi_J0_checkIndex_df160.1 ∈ TB := tb1 (i := 98) (by decide +kernel) rfl
abbrev cJ4_init_da8c8 : ByteArray := prog_32_method_1_code
def yJ4_init_da8c8 : MethodName := ⟨RJ4, "<init>", "()V"⟩
abbrev mi_J4_init_da8c8 : Mi := (yJ4_init_da8c8, cJ4_init_da8c8, 1, none)
def iJ4_init_da8c8_0 : List (Nat × Instr × Nat) := [(0, .aload_n 0, 1), (1, .bipush 16, 2), (3, .invokespecial 1, 3), (6, .return_, 1)]
theorem kJ4_init_da8c8_0 : ckI cJ4_init_da8c8 iJ4_init_da8c8_0 = true := by decide +kernel
theorem my_J4_init_da8c8 : MY mi_J4_init_da8c8 0 := ⟨tb4 (i := 197) (by decide +kernel) rfl, tb1 (i := 22) (by decide +kernel) rfl, by decide, by decide +kernel, by decide +kernel, by decide +kernel⟩
theorem is_J4_init_da8c8 : mi_J4_init_da8c8.1.name = "<init>" ∧ Cond.instanceMethod mi_J4_init_da8c8.1 ∈ TB := ⟨rfl, tb4 (i := 196) (by decide +kernel) rfl⟩
abbrev cJ4_init_a7421 : ByteArray := prog_32_method_3_code
def yJ4_init_a7421 : MethodName := ⟨RJ4, "<init>", "(Ljava/lang/String;)V"⟩
abbrev mi_J4_init_a7421 : Mi := (yJ4_init_a7421, cJ4_init_a7421, 2, none)
def iJ4_init_a7421_0 : List (Nat × Instr × Nat) := [(0, .aload_n 0, 1), (1, .aload_n 1, 1), (2, .invokespecial 7, 3), (5, .return_, 1)]
theorem kJ4_init_a7421_0 : ckI cJ4_init_a7421 iJ4_init_a7421_0 = true := by decide +kernel
theorem my_J4_init_a7421 : MY mi_J4_init_a7421 1 := ⟨tb4 (i := 37) (by decide +kernel) rfl, tb1 (i := 22) (by decide +kernel) rfl, by decide, by decide +kernel, by decide +kernel, by decide +kernel⟩
theorem is_J4_init_a7421 : mi_J4_init_a7421.1.name = "<init>" ∧ Cond.instanceMethod mi_J4_init_a7421.1 ∈ TB := ⟨rfl, tb4 (i := 36) (by decide +kernel) rfl⟩
abbrev cJ4_append_15ec4 : ByteArray := prog_32_method_7_code
def yJ4_append_15ec4 : MethodName := ⟨RJ4, "append", "(Ljava/lang/String;)Ljava/lang/StringBuilder;"⟩
abbrev mi_J4_append_15ec4 : Mi := (yJ4_append_15ec4, cJ4_append_15ec4, 2, (some (.object "java/lang/StringBuilder")))
def iJ4_append_15ec4_0 : List (Nat × Instr × Nat) := [(0, .aload_n 0, 1), (1, .aload_n 1, 1), (2, .invokespecial 29, 3), (5, .pop, 1), (6, .aload_n 0, 1), (7, .areturn, 1)]
theorem kJ4_append_15ec4_0 : ckI cJ4_append_15ec4 iJ4_append_15ec4_0 = true := by decide +kernel
theorem my_J4_append_15ec4 : MY mi_J4_append_15ec4 1 := ⟨tb4 (i := 62) (by decide +kernel) rfl, tb1 (i := 22) (by decide +kernel) rfl, by decide, by decide +kernel, by decide +kernel, by decide +kernel⟩
theorem vs_J4_append_15ec4 : Cond.instanceMethod mi_J4_append_15ec4.1 ∈ TB ∧ Cond.selects RJ4 mi_J4_append_15ec4.1 mi_J4_append_15ec4.1 ∈ TB := ⟨tb4 (i := 60) (by decide +kernel) rfl, tb4 (i := 61) (by decide +kernel) rfl⟩
abbrev cJ4_append_cf468 : ByteArray := prog_32_method_14_code
def yJ4_append_cf468 : MethodName := ⟨RJ4, "append", "(C)Ljava/lang/StringBuilder;"⟩
abbrev mi_J4_append_cf468 : Mi := (yJ4_append_cf468, cJ4_append_cf468, 2, (some (.object "java/lang/StringBuilder")))
def iJ4_append_cf468_0 : List (Nat × Instr × Nat) := [(0, .aload_n 0, 1), (1, .iload_n 1, 1), (2, .invokespecial 50, 3), (5, .pop, 1), (6, .aload_n 0, 1), (7, .areturn, 1)]
theorem kJ4_append_cf468_0 : ckI cJ4_append_cf468 iJ4_append_cf468_0 = true := by decide +kernel
theorem my_J4_append_cf468 : MY mi_J4_append_cf468 1 := ⟨tb4 (i := 209) (by decide +kernel) rfl, tb1 (i := 22) (by decide +kernel) rfl, by decide, by decide +kernel, by decide +kernel, by decide +kernel⟩
theorem vs_J4_append_cf468 : Cond.instanceMethod mi_J4_append_cf468.1 ∈ TB ∧ Cond.selects RJ4 mi_J4_append_cf468.1 mi_J4_append_cf468.1 ∈ TB := ⟨tb4 (i := 207) (by decide +kernel) rfl, tb4 (i := 208) (by decide +kernel) rfl⟩
abbrev cJ4_append_bf812 : ByteArray := prog_32_method_15_code
def yJ4_append_bf812 : MethodName := ⟨RJ4, "append", "(I)Ljava/lang/StringBuilder;"⟩
abbrev mi_J4_append_bf812 : Mi := (yJ4_append_bf812, cJ4_append_bf812, 2, (some (.object "java/lang/StringBuilder")))
def iJ4_append_bf812_0 : List (Nat × Instr × Nat) := [(0, .aload_n 0, 1), (1, .iload_n 1, 1), (2, .invokespecial 53, 3), (5, .pop, 1), (6, .aload_n 0, 1), (7, .areturn, 1)]
theorem kJ4_append_bf812_0 : ckI cJ4_append_bf812 iJ4_append_bf812_0 = true := by decide +kernel
theorem my_J4_append_bf812 : MY mi_J4_append_bf812 1 := ⟨tb5 (i := 39) (by decide +kernel) rfl, tb1 (i := 22) (by decide +kernel) rfl, by decide, by decide +kernel, by decide +kernel, by decide +kernel⟩
theorem vs_J4_append_bf812 : Cond.instanceMethod mi_J4_append_bf812.1 ∈ TB ∧ Cond.selects RJ4 mi_J4_append_bf812.1 mi_J4_append_bf812.1 ∈ TB := ⟨tb5 (i := 37) (by decide +kernel) rfl, tb5 (i := 38) (by decide +kernel) rfl⟩
abbrev cJ4_toString_0e30d : ByteArray := prog_32_method_42_code
def yJ4_toString_0e30d : MethodName := ⟨RJ4, "toString", "()Ljava/lang/String;"⟩
abbrev mi_J4_toString_0e30d : Mi := (yJ4_toString_0e30d, cJ4_toString_0e30d, 1, (some (.object "java/lang/String")))
def iJ4_toString_0e30d_0 : List (Nat × Instr × Nat) := [(0, .new 18, 3), (3, .dup, 1), (4, .aload_n 0, 1), (5, .invokespecial 137, 3), (8, .areturn, 1)]
theorem kJ4_toString_0e30d_0 : ckI cJ4_toString_0e30d iJ4_toString_0e30d_0 = true := by decide +kernel
theorem my_J4_toString_0e30d : MY mi_J4_toString_0e30d 0 := ⟨tb4 (i := 222) (by decide +kernel) rfl, tb1 (i := 22) (by decide +kernel) rfl, by decide, by decide +kernel, by decide +kernel, by decide +kernel⟩
theorem vs_J4_toString_0e30d : Cond.instanceMethod mi_J4_toString_0e30d.1 ∈ TB ∧ Cond.selects RJ4 mi_J4_toString_0e30d.1 mi_J4_toString_0e30d.1 ∈ TB := ⟨tb4 (i := 220) (by decide +kernel) rfl, tb4 (i := 221) (by decide +kernel) rfl⟩
abbrev cJ4_append_cf1ce : ByteArray := prog_32_method_80_code
def yJ4_append_cf1ce : MethodName := ⟨RJ4, "append", "(Ljava/lang/String;)Ljava/lang/AbstractStringBuilder;"⟩
abbrev mi_J4_append_cf1ce : Mi := (yJ4_append_cf1ce, cJ4_append_cf1ce, 2, (some (.object "java/lang/AbstractStringBuilder")))
def iJ4_append_cf1ce_0 : List (Nat × Instr × Nat) := [(0, .aload_n 0, 1), (1, .aload_n 1, 1), (2, .invokevirtual 23, 3), (5, .areturn, 1)]
theorem kJ4_append_cf1ce_0 : ckI cJ4_append_cf1ce iJ4_append_cf1ce_0 = true := by decide +kernel
theorem my_J4_append_cf1ce : MY mi_J4_append_cf1ce 1 := ⟨tb4 (i := 58) (by decide +kernel) rfl, tb1 (i := 22) (by decide +kernel) rfl, by decide, by decide +kernel, by decide +kernel, by decide +kernel⟩
abbrev cJ4_length_8abf5 : ByteArray := prog_32_method_93_code
def yJ4_length_8abf5 : MethodName := ⟨RJ4, "length", "()I"⟩
abbrev mi_J4_length_8abf5 : Mi := (yJ4_length_8abf5, cJ4_length_8abf5, 1, (some .int))
def iJ4_length_8abf5_0 : List (Nat × Instr × Nat) := [(0, .aload_n 0, 1), (1, .invokespecial 343, 3), (4, .ireturn, 1)]
theorem kJ4_length_8abf5_0 : ckI cJ4_length_8abf5 iJ4_length_8abf5_0 = true := by decide +kernel
theorem my_J4_length_8abf5 : MY mi_J4_length_8abf5 0 := ⟨tb5 (i := 2) (by decide +kernel) rfl, tb1 (i := 22) (by decide +kernel) rfl, by decide, by decide +kernel, by decide +kernel, by decide +kernel⟩
theorem vs_J4_length_8abf5 : Cond.instanceMethod mi_J4_length_8abf5.1 ∈ TB ∧ Cond.selects RJ4 mi_J4_length_8abf5.1 mi_J4_length_8abf5.1 ∈ TB := ⟨tb5 (i := 1) (by decide +kernel) rfl, tb9 (i := 122) (by decide +kernel) rfl⟩
abbrev cJ1_charAt_3b067 : ByteArray := prog_33_method_2_code
def yJ1_charAt_3b067 : MethodName := ⟨RJ1, "charAt", "([BI)C"⟩
abbrev mi_J1_charAt_3b067 : Mi := (yJ1_charAt_3b067, cJ1_charAt_3b067, 2, (some .char))
def iJ1_charAt_3b067_0 : List (Nat × Instr × Nat) := [(0, .iload_n 1, 1), (1, .aload_n 0, 1), (2, .arraylength, 1), (3, .invokestatic 9, 3), (6, .aload_n 0, 1), (7, .iload_n 1, 1), (8, .baload, 1), (9, .sipush 255, 3), (12, .iand, 1), (13, .i2c, 1), (14, .ireturn, 1)]
theorem kJ1_charAt_3b067_0 : ckI cJ1_charAt_3b067 iJ1_charAt_3b067_0 = true := by decide +kernel
theorem my_J1_charAt_3b067 : MY mi_J1_charAt_3b067 2 := ⟨tb1 (i := 96) (by decide +kernel) rfl, tb1 (i := 5) (by decide +kernel) rfl, by decide, by decide +kernel, by decide +kernel, by decide +kernel⟩
theorem st_J1_charAt_3b067 : Cond.static mi_J1_charAt_3b067.1 ∈ TB := tb1 (i := 95) (by decide +kernel) rfl
abbrev cJ1_canEncode_fc78d : ByteArray := prog_33_method_3_code
def yJ1_canEncode_fc78d : MethodName := ⟨RJ1, "canEncode", "(C)Z"⟩
abbrev mi_J1_canEncode_fc78d : Mi := (yJ1_canEncode_fc78d, cJ1_canEncode_fc78d, 1, (some .boolean))
def iJ1_canEncode_fc78d_0 : List (Nat × Instr × Nat) := [(0, .iload_n 0, 1), (1, .sipush 255, 3), (4, .if_icmp .gt 7, 3), (7, .iconst 1, 1), (8, .goto 4, 3), (11, .iconst 0, 1), (12, .ireturn, 1)]
theorem kJ1_canEncode_fc78d_0 : ckI cJ1_canEncode_fc78d iJ1_canEncode_fc78d_0 = true := by decide +kernel
theorem my_J1_canEncode_fc78d : MY mi_J1_canEncode_fc78d 1 := ⟨tb4 (i := 215) (by decide +kernel) rfl, tb1 (i := 5) (by decide +kernel) rfl, by decide, by decide +kernel, by decide +kernel, by decide +kernel⟩
theorem st_J1_canEncode_fc78d : Cond.static mi_J1_canEncode_fc78d.1 ∈ TB := tb4 (i := 214) (by decide +kernel) rfl
abbrev cJ1_canEncode_9a6ad : ByteArray := prog_33_method_4_code
def yJ1_canEncode_9a6ad : MethodName := ⟨RJ1, "canEncode", "(I)Z"⟩
abbrev mi_J1_canEncode_9a6ad : Mi := (yJ1_canEncode_9a6ad, cJ1_canEncode_9a6ad, 1, (some .boolean))
def iJ1_canEncode_9a6ad_0 : List (Nat × Instr × Nat) := [(0, .iload_n 0, 1), (1, .ifCond .lt 14, 3), (4, .iload_n 0, 1), (5, .sipush 255, 3), (8, .if_icmp .gt 7, 3), (11, .iconst 1, 1), (12, .goto 4, 3), (15, .iconst 0, 1), (16, .ireturn, 1)]
theorem kJ1_canEncode_9a6ad_0 : ckI cJ1_canEncode_9a6ad iJ1_canEncode_9a6ad_0 = true := by decide +kernel
theorem my_J1_canEncode_9a6ad : MY mi_J1_canEncode_9a6ad 1 := ⟨tb6 (i := 124) (by decide +kernel) rfl, tb1 (i := 5) (by decide +kernel) rfl, by decide, by decide +kernel, by decide +kernel, by decide +kernel⟩
theorem st_J1_canEncode_9a6ad : Cond.static mi_J1_canEncode_9a6ad.1 ∈ TB := tb6 (i := 123) (by decide +kernel) rfl
abbrev cJ1_indexOf_4cfef : ByteArray := prog_33_method_22_code
def yJ1_indexOf_4cfef : MethodName := ⟨RJ1, "indexOf", "([BIII)I"⟩
abbrev mi_J1_indexOf_4cfef : Mi := (yJ1_indexOf_4cfef, cJ1_indexOf_4cfef, 4, (some .int))
def iJ1_indexOf_4cfef_0 : List (Nat × Instr × Nat) := [(0, .iload_n 1, 1), (1, .invokestatic 88, 3), (4, .ifCond .ne 5, 3), (7, .iconst (-1), 1), (8, .ireturn, 1), (9, .iload_n 2, 1), (10, .iconst 0, 1), (11, .invokestatic 92, 3), (14, .istore_n 2, 1), (15, .iload_n 3, 1), (16, .aload_n 0, 1), (17, .arraylength, 1), (18, .invokestatic 38, 3), (21, .istore_n 3, 1), (22, .iload_n 2, 1), (23, .iload_n 3, 1), (24, .if_icmp .lt 5, 3), (27, .iconst (-1), 1), (28, .ireturn, 1), (29, .aload_n 0, 1), (30, .iload_n 1, 1), (31, .iload_n 2, 1), (32, .iload_n 3, 1), (33, .invokestatic 95, 3), (36, .ireturn, 1)]
theorem kJ1_indexOf_4cfef_0 : ckI cJ1_indexOf_4cfef iJ1_indexOf_4cfef_0 = true := by decide +kernel
theorem my_J1_indexOf_4cfef : MY mi_J1_indexOf_4cfef 4 := ⟨tb6 (i := 121) (by decide +kernel) rfl, tb1 (i := 5) (by decide +kernel) rfl, by decide, by decide +kernel, by decide +kernel, by decide +kernel⟩
theorem st_J1_indexOf_4cfef : Cond.static mi_J1_indexOf_4cfef.1 ∈ TB := tb6 (i := 120) (by decide +kernel) rfl
abbrev cJ1_indexOfChar_4cfef : ByteArray := prog_33_method_23_code
def yJ1_indexOfChar_4cfef : MethodName := ⟨RJ1, "indexOfChar", "([BIII)I"⟩
abbrev mi_J1_indexOfChar_4cfef : Mi := (yJ1_indexOfChar_4cfef, cJ1_indexOfChar_4cfef, 6, (some .int))
def iJ1_indexOfChar_4cfef_0 : List (Nat × Instr × Nat) := [(0, .iload_n 1, 1), (1, .i2b, 1), (2, .istore 4, 2), (4, .iload_n 2, 1), (5, .istore 5, 2), (7, .iload 5, 2), (9, .iload_n 3, 1), (10, .if_icmp .ge 21, 3), (13, .aload_n 0, 1), (14, .iload 5, 2), (16, .baload, 1), (17, .iload 4, 2), (19, .if_icmp .ne 6, 3), (22, .iload 5, 2), (24, .ireturn, 1), (25, .iinc 5 1, 3), (28, .goto (-21), 3), (31, .iconst (-1), 1), (32, .ireturn, 1)]
theorem kJ1_indexOfChar_4cfef_0 : ckI cJ1_indexOfChar_4cfef iJ1_indexOfChar_4cfef_0 = true := by decide +kernel
theorem my_J1_indexOfChar_4cfef : MY mi_J1_indexOfChar_4cfef 4 := ⟨tb6 (i := 129) (by decide +kernel) rfl, tb1 (i := 5) (by decide +kernel) rfl, by decide, by decide +kernel, by decide +kernel, by decide +kernel⟩
theorem st_J1_indexOfChar_4cfef : Cond.static mi_J1_indexOfChar_4cfef.1 ∈ TB := tb6 (i := 128) (by decide +kernel) rfl
abbrev cJxa1e45_init_da8c8 : ByteArray := prog_38_method_1_code
def yJxa1e45_init_da8c8 : MethodName := ⟨RJxa1e45, "<init>", "()V"⟩
abbrev mi_Jxa1e45_init_da8c8 : Mi := (yJxa1e45_init_da8c8, cJxa1e45_init_da8c8, 1, none)
def iJxa1e45_init_da8c8_0 : List (Nat × Instr × Nat) := [(0, .aload_n 0, 1), (1, .invokespecial 1, 3), (4, .return_, 1)]
theorem kJxa1e45_init_da8c8_0 : ckI cJxa1e45_init_da8c8 iJxa1e45_init_da8c8_0 = true := by decide +kernel
theorem my_Jxa1e45_init_da8c8 : MY mi_Jxa1e45_init_da8c8 0 := ⟨tb3 (i := 184) (by decide +kernel) rfl, tb1 (i := 17) (by decide +kernel) rfl, by decide, by decide +kernel, by decide +kernel, by decide +kernel⟩
theorem is_Jxa1e45_init_da8c8 : mi_Jxa1e45_init_da8c8.1.name = "<init>" ∧ Cond.instanceMethod mi_Jxa1e45_init_da8c8.1 ∈ TB := ⟨rfl, tb3 (i := 183) (by decide +kernel) rfl⟩
abbrev cJxc12de_init_da8c8 : ByteArray := prog_39_method_1_code
def yJxc12de_init_da8c8 : MethodName := ⟨RJxc12de, "<init>", "()V"⟩
abbrev mi_Jxc12de_init_da8c8 : Mi := (yJxc12de_init_da8c8, cJxc12de_init_da8c8, 1, none)
def iJxc12de_init_da8c8_0 : List (Nat × Instr × Nat) := [(0, .aload_n 0, 1), (1, .invokespecial 1, 3), (4, .aload_n 0, 1), (5, .iconst 0, 1), (6, .putfield 7, 3), (9, .return_, 1)]
theorem kJxc12de_init_da8c8_0 : ckI cJxc12de_init_da8c8 iJxc12de_init_da8c8_0 = true := by decide +kernel
theorem my_Jxc12de_init_da8c8 : MY mi_Jxc12de_init_da8c8 0 := ⟨tb3 (i := 181) (by decide +kernel) rfl, tb1 (i := 18) (by decide +kernel) rfl, by decide, by decide +kernel, by decide +kernel, by decide +kernel⟩
theorem is_Jxc12de_init_da8c8 : mi_Jxc12de_init_da8c8.1.name = "<init>" ∧ Cond.instanceMethod mi_Jxc12de_init_da8c8.1 ∈ TB := ⟨rfl, tb3 (i := 180) (by decide +kernel) rfl⟩
abbrev cJx35411_init_45d68 : ByteArray := prog_41_method_1_code
def yJx35411_init_45d68 : MethodName := ⟨RJx35411, "<init>", "(Ljava/util/ArrayList;)V"⟩
abbrev mi_Jx35411_init_45d68 : Mi := (yJx35411_init_45d68, cJx35411_init_45d68, 2, none)
def iJx35411_init_45d68_0 : List (Nat × Instr × Nat) := [(0, .aload_n 0, 1), (1, .aload_n 1, 1), (2, .putfield 1, 3), (5, .aload_n 0, 1), (6, .invokespecial 7, 3), (9, .aload_n 0, 1), (10, .iconst (-1), 1), (11, .putfield 13, 3), (14, .aload_n 0, 1), (15, .aload_n 0, 1), (16, .getfield 1, 3), (19, .getfield 17, 3), (22, .putfield 22, 3), (25, .return_, 1)]
theorem kJx35411_init_45d68_0 : ckI cJx35411_init_45d68 iJx35411_init_45d68_0 = true := by decide +kernel
theorem my_Jx35411_init_45d68 : MY mi_Jx35411_init_45d68 1 := ⟨tb5 (i := 156) (by decide +kernel) rfl, tb1 (i := 30) (by decide +kernel) rfl, by decide, by decide +kernel, by decide +kernel, by decide +kernel⟩
theorem is_Jx35411_init_45d68 : mi_Jx35411_init_45d68.1.name = "<init>" ∧ Cond.instanceMethod mi_Jx35411_init_45d68.1 ∈ TB := ⟨rfl, tb5 (i := 155) (by decide +kernel) rfl⟩
abbrev cJx35411_hasNext_aae02 : ByteArray := prog_41_method_2_code
def yJx35411_hasNext_aae02 : MethodName := ⟨RJx35411, "hasNext", "()Z"⟩
abbrev mi_Jx35411_hasNext_aae02 : Mi := (yJx35411_hasNext_aae02, cJx35411_hasNext_aae02, 1, (some .boolean))
def iJx35411_hasNext_aae02_0 : List (Nat × Instr × Nat) := [(0, .aload_n 0, 1), (1, .getfield 25, 3), (4, .aload_n 0, 1), (5, .getfield 1, 3), (8, .getfield 28, 3), (11, .if_icmp .eq 7, 3), (14, .iconst 1, 1), (15, .goto 4, 3), (18, .iconst 0, 1), (19, .ireturn, 1)]
theorem kJx35411_hasNext_aae02_0 : ckI cJx35411_hasNext_aae02 iJx35411_hasNext_aae02_0 = true := by decide +kernel
theorem my_Jx35411_hasNext_aae02 : MY mi_Jx35411_hasNext_aae02 0 := ⟨tb5 (i := 180) (by decide +kernel) rfl, tb1 (i := 30) (by decide +kernel) rfl, by decide, by decide +kernel, by decide +kernel, by decide +kernel⟩
abbrev cJx35411_next_0502b : ByteArray := prog_41_method_3_code
def yJx35411_next_0502b : MethodName := ⟨RJx35411, "next", "()Ljava/lang/Object;"⟩
abbrev mi_Jx35411_next_0502b : Mi := (yJx35411_next_0502b, cJx35411_next_0502b, 3, (some (.object "java/lang/Object")))
def iJx35411_next_0502b_0 : List (Nat × Instr × Nat) := [(0, .aload_n 0, 1), (1, .invokevirtual 31, 3), (4, .aload_n 0, 1), (5, .getfield 25, 3), (8, .istore_n 1, 1), (9, .iload_n 1, 1), (10, .aload_n 0, 1), (11, .getfield 1, 3), (14, .getfield 28, 3), (17, .if_icmp .lt 11, 3), (20, .new 34, 3), (23, .dup, 1), (24, .invokespecial 36, 3), (27, .athrow, 1), (28, .aload_n 0, 1), (29, .getfield 1, 3), (32, .getfield 37, 3), (35, .astore_n 2, 1), (36, .iload_n 1, 1), (37, .aload_n 2, 1), (38, .arraylength, 1), (39, .if_icmp .lt 11, 3), (42, .new 41, 3), (45, .dup, 1), (46, .invokespecial 43, 3), (49, .athrow, 1), (50, .aload_n 0, 1), (51, .iload_n 1, 1), (52, .iconst 1, 1), (53, .iadd, 1), (54, .putfield 25, 3), (57, .aload_n 2, 1), (58, .aload_n 0, 1), (59, .iload_n 1, 1), (60, .dup_x1, 1), (61, .putfield 13, 3), (64, .aaload, 1), (65, .areturn, 1)]
theorem kJx35411_next_0502b_0 : ckI cJx35411_next_0502b iJx35411_next_0502b_0 = true := by decide +kernel
theorem my_Jx35411_next_0502b : MY mi_Jx35411_next_0502b 0 := ⟨tb5 (i := 189) (by decide +kernel) rfl, tb1 (i := 30) (by decide +kernel) rfl, by decide, by decide +kernel, by decide +kernel, by decide +kernel⟩
abbrev cJx35411_checkForComodification_da8c8 : ByteArray := prog_41_method_6_code
def yJx35411_checkForComodification_da8c8 : MethodName := ⟨RJx35411, "checkForComodification", "()V"⟩
abbrev mi_Jx35411_checkForComodification_da8c8 : Mi := (yJx35411_checkForComodification_da8c8, cJx35411_checkForComodification_da8c8, 1, none)
def iJx35411_checkForComodification_da8c8_0 : List (Nat × Instr × Nat) := [(0, .aload_n 0, 1), (1, .getfield 1, 3), (4, .getfield 17, 3), (7, .aload_n 0, 1), (8, .getfield 22, 3), (11, .if_icmp .eq 11, 3), (14, .new 41, 3), (17, .dup, 1), (18, .invokespecial 43, 3), (21, .athrow, 1), (22, .return_, 1)]
theorem kJx35411_checkForComodification_da8c8_0 : ckI cJx35411_checkForComodification_da8c8 iJx35411_checkForComodification_da8c8_0 = true := by decide +kernel
theorem my_Jx35411_checkForComodification_da8c8 : MY mi_Jx35411_checkForComodification_da8c8 0 := ⟨tb5 (i := 193) (by decide +kernel) rfl, tb1 (i := 30) (by decide +kernel) rfl, by decide, by decide +kernel, by decide +kernel, by decide +kernel⟩
theorem vs_Jx35411_checkForComodification_da8c8 : Cond.instanceMethod mi_Jx35411_checkForComodification_da8c8.1 ∈ TB ∧ Cond.selects RJx35411 mi_Jx35411_checkForComodification_da8c8.1 mi_Jx35411_checkForComodification_da8c8.1 ∈ TB := ⟨tb5 (i := 191) (by decide +kernel) rfl, tb5 (i := 192) (by decide +kernel) rfl⟩
abbrev cJx4a65c_init_da8c8 : ByteArray := prog_40_method_2_code
def yJx4a65c_init_da8c8 : MethodName := ⟨RJx4a65c, "<init>", "()V"⟩
abbrev mi_Jx4a65c_init_da8c8 : Mi := (yJx4a65c_init_da8c8, cJx4a65c_init_da8c8, 1, none)
def iJx4a65c_init_da8c8_0 : List (Nat × Instr × Nat) := [(0, .aload_n 0, 1), (1, .invokespecial 1, 3), (4, .aload_n 0, 1), (5, .getstatic 39, 3), (8, .putfield 9, 3), (11, .return_, 1)]
theorem kJx4a65c_init_da8c8_0 : ckI cJx4a65c_init_da8c8 iJx4a65c_init_da8c8_0 = true := by decide +kernel
theorem my_Jx4a65c_init_da8c8 : MY mi_Jx4a65c_init_da8c8 0 := ⟨tb3 (i := 178) (by decide +kernel) rfl, tb1 (i := 19) (by decide +kernel) rfl, by decide, by decide +kernel, by decide +kernel, by decide +kernel⟩
theorem is_Jx4a65c_init_da8c8 : mi_Jx4a65c_init_da8c8.1.name = "<init>" ∧ Cond.instanceMethod mi_Jx4a65c_init_da8c8.1 ∈ TB := ⟨rfl, tb3 (i := 177) (by decide +kernel) rfl⟩
abbrev cJx4a65c_grow_92f84 : ByteArray := prog_40_method_6_code
def yJx4a65c_grow_92f84 : MethodName := ⟨RJx4a65c, "grow", "(I)[Ljava/lang/Object;"⟩
abbrev mi_Jx4a65c_grow_92f84 : Mi := (yJx4a65c_grow_92f84, cJx4a65c_grow_92f84, 4, (some (.array (.object "java/lang/Object"))))
def iJx4a65c_grow_92f84_0 : List (Nat × Instr × Nat) := [(0, .aload_n 0, 1), (1, .getfield 9, 3), (4, .arraylength, 1), (5, .istore_n 2, 1), (6, .iload_n 2, 1), (7, .ifCond .gt 13, 3), (10, .aload_n 0, 1), (11, .getfield 9, 3), (14, .getstatic 39, 3), (17, .if_acmp .eq 28, 3), (20, .iload_n 2, 1), (21, .iload_n 1, 1), (22, .iload_n 2, 1), (23, .isub, 1), (24, .iload_n 2, 1), (25, .iconst 1, 1), (26, .ishr, 1), (27, .invokestatic 73, 3), (30, .istore_n 3, 1), (31, .aload_n 0, 1), (32, .aload_n 0, 1), (33, .getfield 9, 3), (36, .iload_n 3, 1), (37, .invokestatic 66, 3), (40, .dup_x1, 1), (41, .putfield 9, 3), (44, .areturn, 1), (45, .aload_n 0, 1), (46, .bipush 10, 2), (48, .iload_n 1, 1), (49, .invokestatic 79, 3), (52, .anewarray 7, 3), (55, .dup_x1, 1), (56, .putfield 9, 3), (59, .areturn, 1)]
theorem kJx4a65c_grow_92f84_0 : ckI cJx4a65c_grow_92f84 iJx4a65c_grow_92f84_0 = true := by decide +kernel
theorem my_Jx4a65c_grow_92f84 : MY mi_Jx4a65c_grow_92f84 1 := ⟨tb5 (i := 103) (by decide +kernel) rfl, tb1 (i := 19) (by decide +kernel) rfl, by decide, by decide +kernel, by decide +kernel, by decide +kernel⟩
theorem vs_Jx4a65c_grow_92f84 : Cond.instanceMethod mi_Jx4a65c_grow_92f84.1 ∈ TB ∧ Cond.selects RJx4a65c mi_Jx4a65c_grow_92f84.1 mi_Jx4a65c_grow_92f84.1 ∈ TB := ⟨tb5 (i := 102) (by decide +kernel) rfl, sel2 (i := 10) (by decide +kernel)⟩
abbrev cJx4a65c_grow_d5877 : ByteArray := prog_40_method_7_code
def yJx4a65c_grow_d5877 : MethodName := ⟨RJx4a65c, "grow", "()[Ljava/lang/Object;"⟩
abbrev mi_Jx4a65c_grow_d5877 : Mi := (yJx4a65c_grow_d5877, cJx4a65c_grow_d5877, 1, (some (.array (.object "java/lang/Object"))))
def iJx4a65c_grow_d5877_0 : List (Nat × Instr × Nat) := [(0, .aload_n 0, 1), (1, .aload_n 0, 1), (2, .getfield 48, 3), (5, .iconst 1, 1), (6, .iadd, 1), (7, .invokevirtual 69, 3), (10, .areturn, 1)]
theorem kJx4a65c_grow_d5877_0 : ckI cJx4a65c_grow_d5877 iJx4a65c_grow_d5877_0 = true := by decide +kernel
theorem my_Jx4a65c_grow_d5877 : MY mi_Jx4a65c_grow_d5877 0 := ⟨tb5 (i := 99) (by decide +kernel) rfl, tb1 (i := 19) (by decide +kernel) rfl, by decide, by decide +kernel, by decide +kernel, by decide +kernel⟩
theorem vs_Jx4a65c_grow_d5877 : Cond.instanceMethod mi_Jx4a65c_grow_d5877.1 ∈ TB ∧ Cond.selects RJx4a65c mi_Jx4a65c_grow_d5877.1 mi_Jx4a65c_grow_d5877.1 ∈ TB := ⟨tb5 (i := 98) (by decide +kernel) rfl, sel2 (i := 9) (by decide +kernel)⟩
abbrev cJx4a65c_size_8abf5 : ByteArray := prog_40_method_8_code
def yJx4a65c_size_8abf5 : MethodName := ⟨RJx4a65c, "size", "()I"⟩
abbrev mi_Jx4a65c_size_8abf5 : Mi := (yJx4a65c_size_8abf5, cJx4a65c_size_8abf5, 1, (some .int))
def iJx4a65c_size_8abf5_0 : List (Nat × Instr × Nat) := [(0, .aload_n 0, 1), (1, .getfield 48, 3), (4, .ireturn, 1)]
theorem kJx4a65c_size_8abf5_0 : ckI cJx4a65c_size_8abf5 iJx4a65c_size_8abf5_0 = true := by decide +kernel
theorem my_Jx4a65c_size_8abf5 : MY mi_Jx4a65c_size_8abf5 0 := ⟨tb5 (i := 203) (by decide +kernel) rfl, tb1 (i := 19) (by decide +kernel) rfl, by decide, by decide +kernel, by decide +kernel, by decide +kernel⟩
theorem vs_Jx4a65c_size_8abf5 : Cond.instanceMethod mi_Jx4a65c_size_8abf5.1 ∈ TB ∧ Cond.selects RJx4a65c mi_Jx4a65c_size_8abf5.1 mi_Jx4a65c_size_8abf5.1 ∈ TB := ⟨tb5 (i := 201) (by decide +kernel) rfl, tb5 (i := 202) (by decide +kernel) rfl⟩
abbrev cJx4a65c_elementData_915e3 : ByteArray := prog_40_method_18_code
def yJx4a65c_elementData_915e3 : MethodName := ⟨RJx4a65c, "elementData", "(I)Ljava/lang/Object;"⟩
abbrev mi_Jx4a65c_elementData_915e3 : Mi := (yJx4a65c_elementData_915e3, cJx4a65c_elementData_915e3, 2, (some (.object "java/lang/Object")))
def iJx4a65c_elementData_915e3_0 : List (Nat × Instr × Nat) := [(0, .aload_n 0, 1), (1, .getfield 9, 3), (4, .iload_n 1, 1), (5, .aaload, 1), (6, .areturn, 1)]
theorem kJx4a65c_elementData_915e3_0 : ckI cJx4a65c_elementData_915e3 iJx4a65c_elementData_915e3_0 = true := by decide +kernel
theorem my_Jx4a65c_elementData_915e3 : MY mi_Jx4a65c_elementData_915e3 1 := ⟨tb5 (i := 215) (by decide +kernel) rfl, tb1 (i := 19) (by decide +kernel) rfl, by decide, by decide +kernel, by decide +kernel, by decide +kernel⟩
theorem vs_Jx4a65c_elementData_915e3 : Cond.instanceMethod mi_Jx4a65c_elementData_915e3.1 ∈ TB ∧ Cond.selects RJx4a65c mi_Jx4a65c_elementData_915e3.1 mi_Jx4a65c_elementData_915e3.1 ∈ TB := ⟨tb5 (i := 213) (by decide +kernel) rfl, tb5 (i := 214) (by decide +kernel) rfl⟩
abbrev cJx4a65c_get_915e3 : ByteArray := prog_40_method_20_code
def yJx4a65c_get_915e3 : MethodName := ⟨RJx4a65c, "get", "(I)Ljava/lang/Object;"⟩
abbrev mi_Jx4a65c_get_915e3 : Mi := (yJx4a65c_get_915e3, cJx4a65c_get_915e3, 2, (some (.object "java/lang/Object")))
def iJx4a65c_get_915e3_0 : List (Nat × Instr × Nat) := [(0, .iload_n 1, 1), (1, .aload_n 0, 1), (2, .getfield 48, 3), (5, .invokestatic 118, 3), (8, .pop, 1), (9, .aload_n 0, 1), (10, .iload_n 1, 1), (11, .invokevirtual 123, 3), (14, .areturn, 1)]
theorem kJx4a65c_get_915e3_0 : ckI cJx4a65c_get_915e3 iJx4a65c_get_915e3_0 = true := by decide +kernel
theorem my_Jx4a65c_get_915e3 : MY mi_Jx4a65c_get_915e3 1 := ⟨tb5 (i := 207) (by decide +kernel) rfl, tb1 (i := 19) (by decide +kernel) rfl, by decide, by decide +kernel, by decide +kernel, by decide +kernel⟩
theorem vs_Jx4a65c_get_915e3 : Cond.instanceMethod mi_Jx4a65c_get_915e3.1 ∈ TB ∧ Cond.selects RJx4a65c mi_Jx4a65c_get_915e3.1 mi_Jx4a65c_get_915e3.1 ∈ TB := ⟨tb5 (i := 205) (by decide +kernel) rfl, tb5 (i := 206) (by decide +kernel) rfl⟩
abbrev cJx4a65c_add_72be8 : ByteArray := prog_40_method_24_code
def yJx4a65c_add_72be8 : MethodName := ⟨RJx4a65c, "add", "(Ljava/lang/Object;[Ljava/lang/Object;I)V"⟩
abbrev mi_Jx4a65c_add_72be8 : Mi := (yJx4a65c_add_72be8, cJx4a65c_add_72be8, 4, none)
def iJx4a65c_add_72be8_0 : List (Nat × Instr × Nat) := [(0, .iload_n 3, 1), (1, .aload_n 2, 1), (2, .arraylength, 1), (3, .if_icmp .ne 8, 3), (6, .aload_n 0, 1), (7, .invokevirtual 129, 3), (10, .astore_n 2, 1), (11, .aload_n 2, 1), (12, .iload_n 3, 1), (13, .aload_n 1, 1), (14, .aastore, 1), (15, .aload_n 0, 1), (16, .iload_n 3, 1), (17, .iconst 1, 1), (18, .iadd, 1), (19, .putfield 48, 3), (22, .return_, 1)]
theorem kJx4a65c_add_72be8_0 : ckI cJx4a65c_add_72be8 iJx4a65c_add_72be8_0 = true := by decide +kernel
theorem my_Jx4a65c_add_72be8 : MY mi_Jx4a65c_add_72be8 3 := ⟨tb5 (i := 95) (by decide +kernel) rfl, tb1 (i := 19) (by decide +kernel) rfl, by decide, by decide +kernel, by decide +kernel, by decide +kernel⟩
theorem vs_Jx4a65c_add_72be8 : Cond.instanceMethod mi_Jx4a65c_add_72be8.1 ∈ TB ∧ Cond.selects RJx4a65c mi_Jx4a65c_add_72be8.1 mi_Jx4a65c_add_72be8.1 ∈ TB := ⟨tb5 (i := 94) (by decide +kernel) rfl, sel2 (i := 8) (by decide +kernel)⟩
abbrev cJx4a65c_add_9ea2d : ByteArray := prog_40_method_25_code
def yJx4a65c_add_9ea2d : MethodName := ⟨RJx4a65c, "add", "(Ljava/lang/Object;)Z"⟩
abbrev mi_Jx4a65c_add_9ea2d : Mi := (yJx4a65c_add_9ea2d, cJx4a65c_add_9ea2d, 2, (some .boolean))
def iJx4a65c_add_9ea2d_0 : List (Nat × Instr × Nat) := [(0, .aload_n 0, 1), (1, .dup, 1), (2, .getfield 63, 3), (5, .iconst 1, 1), (6, .iadd, 1), (7, .putfield 63, 3), (10, .aload_n 0, 1), (11, .aload_n 1, 1), (12, .aload_n 0, 1), (13, .getfield 9, 3), (16, .aload_n 0, 1), (17, .getfield 48, 3), (20, .invokevirtual 131, 3), (23, .iconst 1, 1), (24, .ireturn, 1)]
theorem kJx4a65c_add_9ea2d_0 : ckI cJx4a65c_add_9ea2d iJx4a65c_add_9ea2d_0 = true := by decide +kernel
theorem my_Jx4a65c_add_9ea2d : MY mi_Jx4a65c_add_9ea2d 1 := ⟨tb5 (i := 91) (by decide +kernel) rfl, tb1 (i := 19) (by decide +kernel) rfl, by decide, by decide +kernel, by decide +kernel, by decide +kernel⟩
theorem vs_Jx4a65c_add_9ea2d : Cond.instanceMethod mi_Jx4a65c_add_9ea2d.1 ∈ TB ∧ Cond.selects RJx4a65c mi_Jx4a65c_add_9ea2d.1 mi_Jx4a65c_add_9ea2d.1 ∈ TB := ⟨tb5 (i := 89) (by decide +kernel) rfl, tb5 (i := 90) (by decide +kernel) rfl⟩
abbrev cJx4a65c_remove_915e3 : ByteArray := prog_40_method_29_code
def yJx4a65c_remove_915e3 : MethodName := ⟨RJx4a65c, "remove", "(I)Ljava/lang/Object;"⟩
abbrev mi_Jx4a65c_remove_915e3 : Mi := (yJx4a65c_remove_915e3, cJx4a65c_remove_915e3, 4, (some (.object "java/lang/Object")))
def iJx4a65c_remove_915e3_0 : List (Nat × Instr × Nat) := [(0, .iload_n 1, 1), (1, .aload_n 0, 1), (2, .getfield 48, 3), (5, .invokestatic 118, 3), (8, .pop, 1), (9, .aload_n 0, 1), (10, .getfield 9, 3), (13, .astore_n 2, 1), (14, .aload_n 2, 1), (15, .iload_n 1, 1), (16, .aaload, 1), (17, .astore_n 3, 1), (18, .aload_n 0, 1), (19, .aload_n 2, 1), (20, .iload_n 1, 1), (21, .invokevirtual 144, 3), (24, .aload_n 3, 1), (25, .areturn, 1)]
theorem kJx4a65c_remove_915e3_0 : ckI cJx4a65c_remove_915e3 iJx4a65c_remove_915e3_0 = true := by decide +kernel
theorem my_Jx4a65c_remove_915e3 : MY mi_Jx4a65c_remove_915e3 1 := ⟨tb6 (i := 3) (by decide +kernel) rfl, tb1 (i := 19) (by decide +kernel) rfl, by decide, by decide +kernel, by decide +kernel, by decide +kernel⟩
theorem vs_Jx4a65c_remove_915e3 : Cond.instanceMethod mi_Jx4a65c_remove_915e3.1 ∈ TB ∧ Cond.selects RJx4a65c mi_Jx4a65c_remove_915e3.1 mi_Jx4a65c_remove_915e3.1 ∈ TB := ⟨tb6 (i := 1) (by decide +kernel) rfl, tb6 (i := 2) (by decide +kernel) rfl⟩
abbrev cJx4a65c_fastRemove_b59b0 : ByteArray := prog_40_method_39_code
def yJx4a65c_fastRemove_b59b0 : MethodName := ⟨RJx4a65c, "fastRemove", "([Ljava/lang/Object;I)V"⟩
abbrev mi_Jx4a65c_fastRemove_b59b0 : Mi := (yJx4a65c_fastRemove_b59b0, cJx4a65c_fastRemove_b59b0, 4, none)
def iJx4a65c_fastRemove_b59b0_0 : List (Nat × Instr × Nat) := [(0, .aload_n 0, 1), (1, .dup, 1), (2, .getfield 63, 3), (5, .iconst 1, 1), (6, .iadd, 1), (7, .putfield 63, 3), (10, .aload_n 0, 1), (11, .getfield 48, 3), (14, .iconst 1, 1), (15, .isub, 1), (16, .dup, 1), (17, .istore_n 3, 1), (18, .iload_n 2, 1), (19, .if_icmp .le 15, 3), (22, .aload_n 1, 1), (23, .iload_n 2, 1), (24, .iconst 1, 1), (25, .iadd, 1), (26, .aload_n 1, 1), (27, .iload_n 2, 1), (28, .iload_n 3, 1), (29, .iload_n 2, 1), (30, .isub, 1), (31, .invokestatic 112, 3), (34, .aload_n 1, 1), (35, .aload_n 0, 1), (36, .iload_n 3, 1), (37, .dup_x1, 1), (38, .putfield 48, 3), (41, .aconst_null, 1), (42, .aastore, 1), (43, .return_, 1)]
theorem kJx4a65c_fastRemove_b59b0_0 : ckI cJx4a65c_fastRemove_b59b0 iJx4a65c_fastRemove_b59b0_0 = true := by decide +kernel
theorem my_Jx4a65c_fastRemove_b59b0 : MY mi_Jx4a65c_fastRemove_b59b0 2 := ⟨tb6 (i := 7) (by decide +kernel) rfl, tb1 (i := 19) (by decide +kernel) rfl, by decide, by decide +kernel, by decide +kernel, by decide +kernel⟩
theorem vs_Jx4a65c_fastRemove_b59b0 : Cond.instanceMethod mi_Jx4a65c_fastRemove_b59b0.1 ∈ TB ∧ Cond.selects RJx4a65c mi_Jx4a65c_fastRemove_b59b0.1 mi_Jx4a65c_fastRemove_b59b0.1 ∈ TB := ⟨tb6 (i := 6) (by decide +kernel) rfl, sel2 (i := 13) (by decide +kernel)⟩
abbrev cJx4a65c_clear_da8c8 : ByteArray := prog_40_method_40_code
def yJx4a65c_clear_da8c8 : MethodName := ⟨RJx4a65c, "clear", "()V"⟩
abbrev mi_Jx4a65c_clear_da8c8 : Mi := (yJx4a65c_clear_da8c8, cJx4a65c_clear_da8c8, 4, none)
def iJx4a65c_clear_da8c8_0 : List (Nat × Instr × Nat) := [(0, .aload_n 0, 1), (1, .dup, 1), (2, .getfield 63, 3), (5, .iconst 1, 1), (6, .iadd, 1), (7, .putfield 63, 3), (10, .aload_n 0, 1), (11, .getfield 9, 3), (14, .astore_n 1, 1), (15, .aload_n 0, 1), (16, .getfield 48, 3), (19, .istore_n 2, 1), (20, .aload_n 0, 1), (21, .iconst 0, 1), (22, .dup_x1, 1), (23, .putfield 48, 3), (26, .istore_n 3, 1), (27, .iload_n 3, 1), (28, .iload_n 2, 1), (29, .if_icmp .ge 13, 3), (32, .aload_n 1, 1), (33, .iload_n 3, 1), (34, .aconst_null, 1), (35, .aastore, 1), (36, .iinc 3 1, 3), (39, .goto (-12), 3), (42, .return_, 1)]
theorem kJx4a65c_clear_da8c8_0 : ckI cJx4a65c_clear_da8c8 iJx4a65c_clear_da8c8_0 = true := by decide +kernel
theorem my_Jx4a65c_clear_da8c8 : MY mi_Jx4a65c_clear_da8c8 0 := ⟨tb4 (i := 171) (by decide +kernel) rfl, tb1 (i := 19) (by decide +kernel) rfl, by decide, by decide +kernel, by decide +kernel, by decide +kernel⟩
theorem vs_Jx4a65c_clear_da8c8 : Cond.instanceMethod mi_Jx4a65c_clear_da8c8.1 ∈ TB ∧ Cond.selects RJx4a65c mi_Jx4a65c_clear_da8c8.1 mi_Jx4a65c_clear_da8c8.1 ∈ TB := ⟨tb4 (i := 169) (by decide +kernel) rfl, tb4 (i := 170) (by decide +kernel) rfl⟩
abbrev cJx4a65c_iterator_32c93 : ByteArray := prog_40_method_55_code
def yJx4a65c_iterator_32c93 : MethodName := ⟨RJx4a65c, "iterator", "()Ljava/util/Iterator;"⟩
abbrev mi_Jx4a65c_iterator_32c93 : Mi := (yJx4a65c_iterator_32c93, cJx4a65c_iterator_32c93, 1, (some (.object "java/util/Iterator")))
def iJx4a65c_iterator_32c93_0 : List (Nat × Instr × Nat) := [(0, .new 267, 3), (3, .dup, 1), (4, .aload_n 0, 1), (5, .invokespecial 269, 3), (8, .areturn, 1)]
theorem kJx4a65c_iterator_32c93_0 : ckI cJx4a65c_iterator_32c93 iJx4a65c_iterator_32c93_0 = true := by decide +kernel
theorem my_Jx4a65c_iterator_32c93 : MY mi_Jx4a65c_iterator_32c93 0 := ⟨tb5 (i := 151) (by decide +kernel) rfl, tb1 (i := 19) (by decide +kernel) rfl, by decide, by decide +kernel, by decide +kernel, by decide +kernel⟩
theorem vs_Jx4a65c_iterator_32c93 : Cond.instanceMethod mi_Jx4a65c_iterator_32c93.1 ∈ TB ∧ Cond.selects RJx4a65c mi_Jx4a65c_iterator_32c93.1 mi_Jx4a65c_iterator_32c93.1 ∈ TB := ⟨tb5 (i := 149) (by decide +kernel) rfl, tb5 (i := 150) (by decide +kernel) rfl⟩
abbrev cJ7_copyOf_9075b : ByteArray := prog_42_method_121_code
def yJ7_copyOf_9075b : MethodName := ⟨RJ7, "copyOf", "([BI)[B"⟩
abbrev mi_J7_copyOf_9075b : Mi := (yJ7_copyOf_9075b, cJ7_copyOf_9075b, 3, (some (.array .byte)))
def iJ7_copyOf_9075b_0 : List (Nat × Instr × Nat) := [(0, .iload_n 1, 1), (1, .aload_n 0, 1), (2, .arraylength, 1), (3, .if_icmp .ne 11, 3), (6, .aload_n 0, 1), (7, .invokevirtual 310, 3), (10, .checkcast 311, 3), (13, .areturn, 1), (14, .iload_n 1, 1), (15, .newarray .byte, 2), (17, .astore_n 2, 1), (18, .aload_n 0, 1), (19, .iconst 0, 1), (20, .aload_n 2, 1), (21, .iconst 0, 1), (22, .aload_n 0, 1), (23, .arraylength, 1), (24, .iload_n 1, 1), (25, .invokestatic 304, 3), (28, .invokestatic 150, 3), (31, .aload_n 2, 1), (32, .areturn, 1)]
theorem kJ7_copyOf_9075b_0 : ckI cJ7_copyOf_9075b iJ7_copyOf_9075b_0 = true := by decide +kernel
theorem my_J7_copyOf_9075b : MY mi_J7_copyOf_9075b 2 := ⟨tb4 (i := 88) (by decide +kernel) rfl, tb1 (i := 24) (by decide +kernel) rfl, by decide, by decide +kernel, by decide +kernel, by decide +kernel⟩
theorem st_J7_copyOf_9075b : Cond.static mi_J7_copyOf_9075b.1 ∈ TB := tb4 (i := 87) (by decide +kernel) rfl
abbrev cJ7_checkLength_df160 : ByteArray := prog_42_method_131_code
def yJ7_checkLength_df160 : MethodName := ⟨RJ7, "checkLength", "(II)V"⟩
abbrev mi_J7_checkLength_df160 : Mi := (yJ7_checkLength_df160, cJ7_checkLength_df160, 2, none)
def iJ7_checkLength_df160_0 : List (Nat × Instr × Nat) := [(0, .iload_n 1, 1), (1, .iload_n 0, 1), (2, .if_icmp .ge 35, 3), (5, .new 43, 3), (8, .dup, 1), (9, .new 45, 3), (12, .dup, 1), (13, .invokespecial 47, 3), (16, .iload_n 0, 1), (17, .invokevirtual 54, 3), (20, .ldc_w 337, 3), (23, .invokevirtual 50, 3), (26, .iload_n 1, 1), (27, .invokevirtual 54, 3), (30, .invokevirtual 61, 3), (33, .invokespecial 65, 3), (36, .athrow, 1), (37, .return_, 1)]
theorem kJ7_checkLength_df160_0 : ckI cJ7_checkLength_df160 iJ7_checkLength_df160_0 = true := by decide +kernel
theorem my_J7_checkLength_df160 : MY mi_J7_checkLength_df160 2 := ⟨tb5 (i := 14) (by decide +kernel) rfl, tb1 (i := 24) (by decide +kernel) rfl, by decide, by decide +kernel, by decide +kernel, by decide +kernel⟩
theorem st_J7_checkLength_df160 : Cond.static mi_J7_checkLength_df160.1 ∈ TB := tb5 (i := 13) (by decide +kernel) rfl
abbrev cJ7_copyOfRange_39247 : ByteArray := prog_42_method_132_code
def yJ7_copyOfRange_39247 : MethodName := ⟨RJ7, "copyOfRange", "([BII)[B"⟩
abbrev mi_J7_copyOfRange_39247 : Mi := (yJ7_copyOfRange_39247, cJ7_copyOfRange_39247, 3, (some (.array .byte)))
def iJ7_copyOfRange_39247_0 : List (Nat × Instr × Nat) := [(0, .iload_n 1, 1), (1, .ifCond .ne 9, 3), (4, .iload_n 2, 1), (5, .aload_n 0, 1), (6, .arraylength, 1), (7, .if_icmp .eq 10, 3), (10, .aload_n 0, 1), (11, .iload_n 1, 1), (12, .iload_n 2, 1), (13, .invokestatic 339, 3), (16, .areturn, 1), (17, .aload_n 0, 1), (18, .invokevirtual 310, 3), (21, .checkcast 311, 3), (24, .areturn, 1)]
theorem kJ7_copyOfRange_39247_0 : ckI cJ7_copyOfRange_39247 iJ7_copyOfRange_39247_0 = true := by decide +kernel
theorem my_J7_copyOfRange_39247 : MY mi_J7_copyOfRange_39247 3 := ⟨tb5 (i := 8) (by decide +kernel) rfl, tb1 (i := 24) (by decide +kernel) rfl, by decide, by decide +kernel, by decide +kernel, by decide +kernel⟩
theorem st_J7_copyOfRange_39247 : Cond.static mi_J7_copyOfRange_39247.1 ∈ TB := tb5 (i := 7) (by decide +kernel) rfl
abbrev cJ7_copyOfRangeByte_39247 : ByteArray := prog_42_method_133_code
def yJ7_copyOfRangeByte_39247 : MethodName := ⟨RJ7, "copyOfRangeByte", "([BII)[B"⟩
abbrev mi_J7_copyOfRangeByte_39247 : Mi := (yJ7_copyOfRangeByte_39247, cJ7_copyOfRangeByte_39247, 5, (some (.array .byte)))
def iJ7_copyOfRangeByte_39247_0 : List (Nat × Instr × Nat) := [(0, .iload_n 1, 1), (1, .iload_n 2, 1), (2, .invokestatic 343, 3), (5, .iload_n 2, 1), (6, .iload_n 1, 1), (7, .isub, 1), (8, .istore_n 3, 1), (9, .iload_n 3, 1), (10, .newarray .byte, 2), (12, .astore 4, 2), (14, .aload_n 0, 1), (15, .iload_n 1, 1), (16, .aload 4, 2), (18, .iconst 0, 1), (19, .aload_n 0, 1), (20, .arraylength, 1), (21, .iload_n 1, 1), (22, .isub, 1), (23, .iload_n 3, 1), (24, .invokestatic 304, 3), (27, .invokestatic 150, 3), (30, .aload 4, 2), (32, .areturn, 1)]
theorem kJ7_copyOfRangeByte_39247_0 : ckI cJ7_copyOfRangeByte_39247 iJ7_copyOfRangeByte_39247_0 = true := by decide +kernel
theorem my_J7_copyOfRangeByte_39247 : MY mi_J7_copyOfRangeByte_39247 3 := ⟨tb5 (i := 11) (by decide +kernel) rfl, tb1 (i := 24) (by decide +kernel) rfl, by decide, by decide +kernel, by decide +kernel, by decide +kernel⟩
theorem st_J7_copyOfRangeByte_39247 : Cond.static mi_J7_copyOfRangeByte_39247.1 ∈ TB := tb5 (i := 10) (by decide +kernel) rfl
abbrev cJ15_checkIndex_7cf53 : ByteArray := prog_46_method_17_code
def yJ15_checkIndex_7cf53 : MethodName := ⟨RJ15, "checkIndex", "(II)I"⟩
abbrev mi_J15_checkIndex_7cf53 : Mi := (yJ15_checkIndex_7cf53, cJ15_checkIndex_7cf53, 2, (some .int))
def iJ15_checkIndex_7cf53_0 : List (Nat × Instr × Nat) := [(0, .iload_n 0, 1), (1, .iload_n 1, 1), (2, .aconst_null, 1), (3, .invokestatic 105, 3), (6, .ireturn, 1)]
theorem kJ15_checkIndex_7cf53_0 : ckI cJ15_checkIndex_7cf53 iJ15_checkIndex_7cf53_0 = true := by decide +kernel
theorem my_J15_checkIndex_7cf53 : MY mi_J15_checkIndex_7cf53 2 := ⟨tb5 (i := 210) (by decide +kernel) rfl, tb1 (i := 31) (by decide +kernel) rfl, by decide, by decide +kernel, by decide +kernel, by decide +kernel⟩
theorem st_J15_checkIndex_7cf53 : Cond.static mi_J15_checkIndex_7cf53.1 ∈ TB := tb5 (i := 209) (by decide +kernel) rfl
abbrev cJ8_newLength_cabcc : ByteArray := prog_49_method_27_code
def yJ8_newLength_cabcc : MethodName := ⟨RJ8, "newLength", "(III)I"⟩
abbrev mi_J8_newLength_cabcc : Mi := (yJ8_newLength_cabcc, cJ8_newLength_cabcc, 4, (some .int))
def iJ8_newLength_cabcc_0 : List (Nat × Instr × Nat) := [(0, .iload_n 0, 1), (1, .iload_n 1, 1), (2, .iload_n 2, 1), (3, .invokestatic 194, 3), (6, .iadd, 1), (7, .istore_n 3, 1), (8, .iconst 0, 1), (9, .iload_n 3, 1), (10, .if_icmp .ge 11, 3), (13, .iload_n 3, 1), (14, .ldc 200, 2), (16, .if_icmp .gt 5, 3), (19, .iload_n 3, 1), (20, .ireturn, 1), (21, .iload_n 0, 1), (22, .iload_n 1, 1), (23, .invokestatic 201, 3), (26, .ireturn, 1)]
theorem kJ8_newLength_cabcc_0 : ckI cJ8_newLength_cabcc iJ8_newLength_cabcc_0 = true := by decide +kernel
theorem my_J8_newLength_cabcc : MY mi_J8_newLength_cabcc 3 := ⟨tb4 (i := 80) (by decide +kernel) rfl, tb1 (i := 23) (by decide +kernel) rfl, by decide, by decide +kernel, by decide +kernel, by decide +kernel⟩
theorem st_J8_newLength_cabcc : Cond.static mi_J8_newLength_cabcc.1 ∈ TB := tb4 (i := 79) (by decide +kernel) rfl
abbrev cJ3_checkIndex_8e157 : ByteArray := prog_50_method_11_code
def yJ3_checkIndex_8e157 : MethodName := ⟨RJ3, "checkIndex", "(IILjava/util/function/BiFunction;)I"⟩
abbrev mi_J3_checkIndex_8e157 : Mi := (yJ3_checkIndex_8e157, cJ3_checkIndex_8e157, 3, (some .int))
def iJ3_checkIndex_8e157_0 : List (Nat × Instr × Nat) := [(0, .iload_n 0, 1), (1, .ifCond .lt 8, 3), (4, .iload_n 0, 1), (5, .iload_n 1, 1), (6, .if_icmp .lt 10, 3), (9, .aload_n 2, 1), (10, .iload_n 0, 1), (11, .iload_n 1, 1), (12, .invokestatic 95, 3), (15, .athrow, 1), (16, .iload_n 0, 1), (17, .ireturn, 1)]
theorem kJ3_checkIndex_8e157_0 : ckI cJ3_checkIndex_8e157 iJ3_checkIndex_8e157_0 = true := by decide +kernel
theorem my_J3_checkIndex_8e157 : MY mi_J3_checkIndex_8e157 3 := ⟨tb1 (i := 104) (by decide +kernel) rfl, tb1 (i := 6) (by decide +kernel) rfl, by decide, by decide +kernel, by decide +kernel, by decide +kernel⟩
theorem st_J3_checkIndex_8e157 : Cond.static mi_J3_checkIndex_8e157.1 ∈ TB := tb1 (i := 103) (by decide +kernel) rfl
abbrev cL_init : ByteArray := method_1_code
def yL_init : MethodName := ⟨RL, "<init>", "()V"⟩
abbrev mi_L_init : Mi := (yL_init, cL_init, 1, none)
def iL_init_0 : List (Nat × Instr × Nat) := [(0, .aload_n 0, 1), (1, .invokespecial 1, 3), (4, .aload_n 0, 1), (5, .new 7, 3), (8, .dup, 1), (9, .invokespecial 9, 3), (12, .putfield 10, 3), (15, .aload_n 0, 1), (16, .bipush 8, 2), (18, .newarray .int, 2), (20, .putfield 16, 3), (23, .aload_n 0, 1), (24, .new 20, 3), (27, .dup, 1), (28, .invokespecial 22, 3), (31, .putfield 23, 3), (34, .aload_n 0, 1), (35, .iconst 5, 1), (36, .iconst 5, 1), (37, .multianewarray 27 2, 4), (41, .putfield 29, 3), (44, .aload_n 0, 1), (45, .new 20, 3), (48, .dup, 1), (49, .invokespecial 22, 3), (52, .putfield 32, 3), (55, .return_, 1)]
theorem kL_init_0 : ckI cL_init iL_init_0 = true := by decide +kernel
theorem my_L_init : MY mi_L_init 0 := ⟨tb1 (i := 40) (by decide +kernel) rfl, tb1 (i := 0) (by decide +kernel) rfl, by decide, by decide +kernel, by decide +kernel, by decide +kernel⟩
theorem is_L_init : mi_L_init.1.name = "<init>" ∧ Cond.instanceMethod mi_L_init.1 ∈ TB := ⟨rfl, tb1 (i := 39) (by decide +kernel) rfl⟩
abbrev cL_at : ByteArray := method_2_code
def yL_at : MethodName := ⟨RL, "at", "([II)I"⟩
abbrev mi_L_at : Mi := (yL_at, cL_at, 3, (some .int))
def iL_at_0 : List (Nat × Instr × Nat) := [(0, .iload_n 1, 1), (1, .aload_n 0, 1), (2, .arraylength, 1), (3, .if_icmp .ge 9, 3), (6, .aload_n 0, 1), (7, .iload_n 1, 1), (8, .iaload, 1), (9, .goto 4, 3), (12, .iconst 0, 1), (13, .istore_n 2, 1), (14, .iload_n 2, 1), (15, .ifCond .le 22, 3), (18, .iload_n 2, 1), (19, .sipush 512, 3), (22, .if_icmp .ge 15, 3), (25, .iload_n 2, 1), (26, .ldc 35, 2), (28, .imul, 1), (29, .iload_n 1, 1), (30, .ldc 36, 2), (32, .imul, 1), (33, .ixor, 1), (34, .goto 4, 3), (37, .iload_n 2, 1), (38, .ireturn, 1)]
theorem kL_at_0 : ckI cL_at iL_at_0 = true := by decide +kernel
theorem my_L_at : MY mi_L_at 2 := ⟨tb4 (i := 16) (by decide +kernel) rfl, tb1 (i := 0) (by decide +kernel) rfl, by decide, by decide +kernel, by decide +kernel, by decide +kernel⟩
theorem st_L_at : Cond.static mi_L_at.1 ∈ TB := tb4 (i := 15) (by decide +kernel) rfl
abbrev cL_draw : ByteArray := method_3_code
def yL_draw : MethodName := ⟨RL, "draw", "(I)I"⟩
abbrev mi_L_draw : Mi := (yL_draw, cL_draw, 3, (some .int))
def iL_draw_0 : List (Nat × Instr × Nat) := [(0, .aload_n 0, 1), (1, .getfield 37, 3), (4, .aload_n 0, 1), (5, .getfield 40, 3), (8, .iconst 1, 1), (9, .aload_n 0, 1), (10, .getfield 37, 3), (13, .arraylength, 1), (14, .invokestatic 44, 3), (17, .irem, 1), (18, .invokestatic 50, 3), (21, .aload_n 0, 1), (22, .getfield 40, 3), (25, .ldc 54, 2), (27, .imul, 1), (28, .iadd, 1), (29, .istore_n 2, 1), (30, .aload_n 0, 1), (31, .dup, 1), (32, .getfield 40, 3), (35, .iconst 1, 1), (36, .iadd, 1), (37, .putfield 40, 3), (40, .iload_n 2, 1), (41, .iload_n 2, 1), (42, .bipush 15, 2), (44, .iushr, 1), (45, .ixor, 1), (46, .istore_n 2, 1), (47, .iload_n 2, 1), (48, .ldc 55, 2), (50, .imul, 1), (51, .istore_n 2, 1), (52, .iload_n 2, 1), (53, .iload_n 2, 1), (54, .bipush 13, 2), (56, .iushr, 1), (57, .ixor, 1), (58, .istore_n 2, 1), (59, .iload_n 2, 1), (60, .ldc 56, 2), (62, .iand, 1), (63, .iload_n 1, 1), (64, .irem, 1), (65, .ireturn, 1)]
theorem kL_draw_0 : ckI cL_draw iL_draw_0 = true := by decide +kernel
theorem my_L_draw : MY mi_L_draw 1 := ⟨tb4 (i := 10) (by decide +kernel) rfl, tb1 (i := 0) (by decide +kernel) rfl, by decide, by decide +kernel, by decide +kernel, by decide +kernel⟩
theorem vs_L_draw : Cond.instanceMethod mi_L_draw.1 ∈ TB ∧ Cond.selects RL mi_L_draw.1 mi_L_draw.1 ∈ TB := ⟨tb4 (i := 9) (by decide +kernel) rfl, sel2 (i := 3) (by decide +kernel)⟩
abbrev cL_text : ByteArray := method_4_code
def yL_text : MethodName := ⟨RL, "text", "(Ljava/lang/String;)V"⟩
abbrev mi_L_text : Mi := (yL_text, cL_text, 5, none)
def iL_text_0 : List (Nat × Instr × Nat) := [(0, .aload_n 0, 1), (1, .getfield 10, 3), (4, .iconst 0, 1), (5, .invokevirtual 57, 3), (8, .pop, 1), (9, .iconst 0, 1), (10, .istore_n 2, 1), (11, .iload_n 2, 1), (12, .aload_n 1, 1), (13, .invokevirtual 61, 3), (16, .if_icmp .ge 68, 3), (19, .iconst 0, 1), (20, .istore_n 3, 1), (21, .iconst 0, 1), (22, .istore 4, 2), (24, .iload 4, 2), (26, .iconst 4, 1), (27, .if_icmp .ge 42, 3), (30, .iload_n 3, 1), (31, .bipush 8, 2), (33, .ishl, 1), (34, .iload_n 2, 1), (35, .iload 4, 2), (37, .iadd, 1), (38, .aload_n 1, 1), (39, .invokevirtual 61, 3), (42, .if_icmp .ge 18, 3), (45, .aload_n 1, 1), (46, .iload_n 2, 1), (47, .iload 4, 2), (49, .iadd, 1), (50, .invokevirtual 67, 3), (53, .sipush 255, 3), (56, .iand, 1), (57, .goto 4, 3), (60, .iconst 0, 1), (61, .ior, 1), (62, .istore_n 3, 1), (63, .iinc 4 1, 3), (66, .goto (-42), 3), (69, .aload_n 0, 1), (70, .getfield 10, 3), (73, .iload_n 3, 1), (74, .invokevirtual 71, 3), (77, .pop, 1), (78, .iinc 2 4, 3), (81, .goto (-70), 3), (84, .aload_n 0, 1), (85, .getfield 10, 3), (88, .aload_n 1, 1), (89, .invokevirtual 61, 3), (92, .invokevirtual 57, 3), (95, .pop, 1), (96, .return_, 1)]
theorem kL_text_0 : ckI cL_text iL_text_0 = true := by decide +kernel
theorem my_L_text : MY mi_L_text 1 := ⟨tb6 (i := 57) (by decide +kernel) rfl, tb1 (i := 0) (by decide +kernel) rfl, by decide, by decide +kernel, by decide +kernel, by decide +kernel⟩
theorem vs_L_text : Cond.instanceMethod mi_L_text.1 ∈ TB ∧ Cond.selects RL mi_L_text.1 mi_L_text.1 ∈ TB := ⟨tb6 (i := 56) (by decide +kernel) rfl, sel2 (i := 14) (by decide +kernel)⟩
abbrev cL_said : ByteArray := method_5_code
def yL_said : MethodName := ⟨RL, "said", "(II)LStruckCountsLaw$Said;"⟩
abbrev mi_L_said : Mi := (yL_said, cL_said, 6, (some (.object "StruckCountsLaw$Said")))
def iL_said_0 : List (Nat × Instr × Nat) := [(0, .iload_n 2, 1), (1, .ifCond .ne 7, 3), (4, .iconst 0, 1), (5, .goto 9, 3), (8, .aload_n 0, 1), (9, .bipush 6, 2), (11, .invokevirtual 75, 3), (14, .istore_n 3, 1), (15, .iload_n 3, 1), (16, .ifCond .eq 8, 3), (19, .iload_n 3, 1), (20, .iconst 5, 1), (21, .if_icmp .ne 18, 3), (24, .new 78, 3), (27, .dup, 1), (28, .iconst 0, 1), (29, .aload_n 0, 1), (30, .iload_n 1, 1), (31, .invokevirtual 75, 3), (34, .aconst_null, 1), (35, .invokespecial 80, 3), (38, .areturn, 1), (39, .iload_n 3, 1), (40, .iconst 1, 1), (41, .if_icmp .ne 7, 3), (44, .iconst 1, 1), (45, .goto 10, 3), (48, .iconst 2, 1), (49, .aload_n 0, 1), (50, .iconst 2, 1), (51, .invokevirtual 75, 3), (54, .iadd, 1), (55, .anewarray 78, 3), (58, .astore 4, 2), (60, .iconst 0, 1), (61, .istore 5, 2), (63, .iload 5, 2), (65, .aload 4, 2), (67, .arraylength, 1), (68, .if_icmp .ge 22, 3), (71, .aload 4, 2), (73, .iload 5, 2), (75, .aload_n 0, 1), (76, .iload_n 1, 1), (77, .iload_n 2, 1), (78, .iconst 1, 1), (79, .isub, 1), (80, .invokevirtual 83, 3), (83, .aastore, 1), (84, .iinc 5 1, 3), (87, .goto (-24), 3), (90, .new 78, 3), (93, .dup, 1), (94, .iload_n 3, 1), (95, .iload_n 3, 1), (96, .iconst 4, 1), (97, .if_icmp .ne 15, 3), (100, .aload_n 0, 1), (101, .aload 4, 2), (103, .arraylength, 1), (104, .iconst 1, 1), (105, .iadd, 1), (106, .invokevirtual 75, 3), (109, .goto 4, 3)]
theorem kL_said_0 : ckI cL_said iL_said_0 = true := by decide +kernel
def iL_said_1 : List (Nat × Instr × Nat) := [(112, .iconst 0, 1), (113, .aload 4, 2), (115, .invokespecial 80, 3), (118, .areturn, 1)]
theorem kL_said_1 : ckI cL_said iL_said_1 = true := by decide +kernel
theorem my_L_said : MY mi_L_said 2 := ⟨tb5 (i := 70) (by decide +kernel) rfl, tb1 (i := 0) (by decide +kernel) rfl, by decide, by decide +kernel, by decide +kernel, by decide +kernel⟩
theorem vs_L_said : Cond.instanceMethod mi_L_said.1 ∈ TB ∧ Cond.selects RL mi_L_said.1 mi_L_said.1 ∈ TB := ⟨tb5 (i := 69) (by decide +kernel) rfl, sel2 (i := 7) (by decide +kernel)⟩
abbrev cL_can : ByteArray := method_6_code
def yL_can : MethodName := ⟨RL, "can", "(I)Z"⟩
abbrev mi_L_can : Mi := (yL_can, cL_can, 4, (some .boolean))
def iL_can_0 : List (Nat × Instr × Nat) := [(0, .iload_n 1, 1), (1, .aload_n 0, 1), (2, .getfield 87, 3), (5, .ishr, 1), (6, .ifCond .eq 5, 3), (9, .iconst 0, 1), (10, .ireturn, 1), (11, .aload_n 0, 1), (12, .getfield 23, 3), (15, .invokevirtual 90, 3), (18, .astore_n 2, 1), (19, .aload_n 2, 1), (20, .invokeinterface 94 1, 5), (25, .ifCond .eq 26, 3), (28, .aload_n 2, 1), (29, .invokeinterface 100 1, 5), (34, .checkcast 78, 3), (37, .astore_n 3, 1), (38, .aload_n 3, 1), (39, .iload_n 1, 1), (40, .invokevirtual 103, 3), (43, .ifCond .eq 5, 3), (46, .iconst 0, 1), (47, .ireturn, 1), (48, .goto (-29), 3), (51, .iconst 1, 1), (52, .ireturn, 1)]
theorem kL_can_0 : ckI cL_can iL_can_0 = true := by decide +kernel
theorem my_L_can : MY mi_L_can 1 := ⟨tb5 (i := 147) (by decide +kernel) rfl, tb1 (i := 0) (by decide +kernel) rfl, by decide, by decide +kernel, by decide +kernel, by decide +kernel⟩
theorem vs_L_can : Cond.instanceMethod mi_L_can.1 ∈ TB ∧ Cond.selects RL mi_L_can.1 mi_L_can.1 ∈ TB := ⟨tb5 (i := 146) (by decide +kernel) rfl, sel2 (i := 12) (by decide +kernel)⟩
abbrev cL_some : ByteArray := method_8_code
def yL_some : MethodName := ⟨RL, "some", "()Z"⟩
abbrev mi_L_some : Mi := (yL_some, cL_some, 2, (some .boolean))
def iL_some_0 : List (Nat × Instr × Nat) := [(0, .iconst 0, 1), (1, .istore_n 1, 1), (2, .iload_n 1, 1), (3, .iconst 1, 1), (4, .aload_n 0, 1), (5, .getfield 87, 3), (8, .ishl, 1), (9, .if_icmp .ge 19, 3), (12, .aload_n 0, 1), (13, .iload_n 1, 1), (14, .invokevirtual 106, 3), (17, .ifCond .eq 5, 3), (20, .iconst 1, 1), (21, .ireturn, 1), (22, .iinc 1 1, 3), (25, .goto (-23), 3), (28, .iconst 0, 1), (29, .ireturn, 1)]
theorem kL_some_0 : ckI cL_some iL_some_0 = true := by decide +kernel
theorem my_L_some : MY mi_L_some 0 := ⟨tb5 (i := 143) (by decide +kernel) rfl, tb1 (i := 0) (by decide +kernel) rfl, by decide, by decide +kernel, by decide +kernel, by decide +kernel⟩
theorem vs_L_some : Cond.instanceMethod mi_L_some.1 ∈ TB ∧ Cond.selects RL mi_L_some.1 mi_L_some.1 ∈ TB := ⟨tb5 (i := 142) (by decide +kernel) rfl, sel2 (i := 11) (by decide +kernel)⟩
abbrev cL_gap : ByteArray := method_9_code
def yL_gap : MethodName := ⟨RL, "gap", "()Ljava/lang/String;"⟩
abbrev mi_L_gap : Mi := (yL_gap, cL_gap, 1, (some (.object "java/lang/String")))
def iL_gap_0 : List (Nat × Instr × Nat) := [(0, .aload_n 0, 1), (1, .bipush 9, 2), (3, .invokevirtual 75, 3), (6, .ifCond .ne 21, 3), (9, .aload_n 0, 1), (10, .iconst 2, 1), (11, .invokevirtual 75, 3), (14, .ifCond .ne 8, 3), (17, .ldc 121, 2), (19, .goto 10, 3), (22, .ldc 123, 2), (24, .goto 5, 3), (27, .ldc 125, 2), (29, .areturn, 1)]
theorem kL_gap_0 : ckI cL_gap iL_gap_0 = true := by decide +kernel
theorem my_L_gap : MY mi_L_gap 0 := ⟨tb4 (i := 31) (by decide +kernel) rfl, tb1 (i := 0) (by decide +kernel) rfl, by decide, by decide +kernel, by decide +kernel, by decide +kernel⟩
theorem vs_L_gap : Cond.instanceMethod mi_L_gap.1 ∈ TB ∧ Cond.selects RL mi_L_gap.1 mi_L_gap.1 ∈ TB := ⟨tb4 (i := 30) (by decide +kernel) rfl, sel2 (i := 5) (by decide +kernel)⟩
abbrev cL_fact : ByteArray := method_10_code
def yL_fact : MethodName := ⟨RL, "fact", "(I)Ljava/lang/String;"⟩
abbrev mi_L_fact : Mi := (yL_fact, cL_fact, 1, (some (.object "java/lang/String")))
def iL_fact_0 : List (Nat × Instr × Nat) := [(0, .new 127, 3), (3, .dup, 1), (4, .invokespecial 129, 3), (7, .ldc 125, 2), (9, .invokevirtual 130, 3), (12, .bipush 97, 2), (14, .iload_n 0, 1), (15, .iadd, 1), (16, .i2c, 1), (17, .invokevirtual 134, 3), (20, .invokevirtual 137, 3), (23, .areturn, 1)]
theorem kL_fact_0 : ckI cL_fact iL_fact_0 = true := by decide +kernel
theorem my_L_fact : MY mi_L_fact 1 := ⟨tb4 (i := 205) (by decide +kernel) rfl, tb1 (i := 0) (by decide +kernel) rfl, by decide, by decide +kernel, by decide +kernel, by decide +kernel⟩
theorem st_L_fact : Cond.static mi_L_fact.1 ∈ TB := tb4 (i := 204) (by decide +kernel) rfl
abbrev cL_count : ByteArray := method_11_code
def yL_count : MethodName := ⟨RL, "count", "(I)Ljava/lang/String;"⟩
abbrev mi_L_count : Mi := (yL_count, cL_count, 1, (some (.object "java/lang/String")))
def iL_count_0 : List (Nat × Instr × Nat) := [(0, .new 127, 3), (3, .dup, 1), (4, .invokespecial 129, 3), (7, .ldc 141, 2), (9, .invokevirtual 130, 3), (12, .bipush 97, 2), (14, .iload_n 0, 1), (15, .iadd, 1), (16, .i2c, 1), (17, .invokevirtual 134, 3), (20, .invokevirtual 137, 3), (23, .areturn, 1)]
theorem kL_count_0 : ckI cL_count iL_count_0 = true := by decide +kernel
theorem my_L_count : MY mi_L_count 1 := ⟨tb6 (i := 13) (by decide +kernel) rfl, tb1 (i := 0) (by decide +kernel) rfl, by decide, by decide +kernel, by decide +kernel, by decide +kernel⟩
theorem st_L_count : Cond.static mi_L_count.1 ∈ TB := tb6 (i := 12) (by decide +kernel) rfl
abbrev cL_fits : ByteArray := method_12_code
def yL_fits : MethodName := ⟨RL, "fits", "(Ljava/lang/StringBuilder;Ljava/lang/String;)Z"⟩
abbrev mi_L_fits : Mi := (yL_fits, cL_fits, 3, (some .boolean))
def iL_fits_0 : List (Nat × Instr × Nat) := [(0, .aload_n 1, 1), (1, .invokevirtual 143, 3), (4, .aload_n 2, 1), (5, .invokevirtual 61, 3), (8, .iadd, 1), (9, .sipush 470, 3), (12, .if_icmp .le 5, 3), (15, .iconst 0, 1), (16, .ireturn, 1), (17, .aload_n 1, 1), (18, .aload_n 2, 1), (19, .invokevirtual 130, 3), (22, .bipush 59, 2), (24, .invokevirtual 134, 3), (27, .aload_n 0, 1), (28, .invokevirtual 144, 3), (31, .invokevirtual 130, 3), (34, .pop, 1), (35, .aload_n 0, 1), (36, .dup, 1), (37, .getfield 147, 3), (40, .iconst 1, 1), (41, .iadd, 1), (42, .putfield 147, 3), (45, .iconst 1, 1), (46, .ireturn, 1)]
theorem kL_fits_0 : ckI cL_fits iL_fits_0 = true := by decide +kernel
theorem my_L_fits : MY mi_L_fits 2 := ⟨tb5 (i := 64) (by decide +kernel) rfl, tb1 (i := 0) (by decide +kernel) rfl, by decide, by decide +kernel, by decide +kernel, by decide +kernel⟩
theorem vs_L_fits : Cond.instanceMethod mi_L_fits.1 ∈ TB ∧ Cond.selects RL mi_L_fits.1 mi_L_fits.1 ∈ TB := ⟨tb5 (i := 63) (by decide +kernel) rfl, sel2 (i := 6) (by decide +kernel)⟩
abbrev cL_told : ByteArray := method_13_code
def yL_told : MethodName := ⟨RL, "told", "(II)Z"⟩
abbrev mi_L_told : Mi := (yL_told, cL_told, 14, (some .boolean))
def iL_told_0 : List (Nat × Instr × Nat) := [(0, .new 127, 3), (3, .dup, 1), (4, .aload_n 0, 1), (5, .invokevirtual 144, 3), (8, .invokespecial 150, 3), (11, .astore_n 3, 1), (12, .aload_n 0, 1), (13, .iconst 1, 1), (14, .aload_n 0, 1), (15, .iload_n 1, 1), (16, .invokevirtual 75, 3), (19, .iadd, 1), (20, .putfield 87, 3), (23, .aload_n 0, 1), (24, .iconst 0, 1), (25, .putfield 147, 3), (28, .aload_n 0, 1), (29, .sipush 300, 3), (32, .putfield 153, 3), (35, .aload_n 0, 1), (36, .getfield 23, 3), (39, .invokevirtual 156, 3), (42, .aload_n 0, 1), (43, .new 114, 3), (46, .dup, 1), (47, .invokespecial 159, 3), (50, .putfield 109, 3), (53, .aload_n 0, 1), (54, .aconst_null, 1), (55, .putfield 160, 3), (58, .aload_n 0, 1), (59, .getfield 32, 3), (62, .invokevirtual 156, 3), (65, .iconst 0, 1), (66, .istore 4, 2), (68, .iload 4, 2), (70, .iconst 5, 1), (71, .if_icmp .ge 35, 3), (74, .iconst 0, 1), (75, .istore 5, 2), (77, .iload 5, 2), (79, .iconst 5, 1), (80, .if_icmp .ge 20, 3), (83, .aload_n 0, 1), (84, .getfield 29, 3), (87, .iload 4, 2), (89, .aaload, 1), (90, .iload 5, 2), (92, .iconst 0, 1), (93, .bastore, 1), (94, .iinc 5 1, 3), (97, .goto (-20), 3), (100, .iinc 4 1, 3), (103, .goto (-35), 3), (106, .iconst 0, 1), (107, .istore 4, 2), (109, .iload 4, 2), (111, .aload_n 0, 1), (112, .getfield 87, 3), (115, .if_icmp .ge 109, 3), (118, .aload_n 0, 1), (119, .getfield 16, 3), (122, .iload 4, 2), (124, .aload_n 0, 1)]
theorem kL_told_0 : ckI cL_told iL_told_0 = true := by decide +kernel
def iL_told_1 : List (Nat × Instr × Nat) := [(125, .iconst 3, 1), (126, .invokevirtual 75, 3), (129, .ifCond .ne 7, 3), (132, .iconst 5, 1), (133, .goto 11, 3), (136, .iconst 1, 1), (137, .aload_n 0, 1), (138, .bipush 9, 2), (140, .invokevirtual 75, 3), (143, .iadd, 1), (144, .iastore, 1), (145, .aload_n 0, 1), (146, .aload_n 3, 1), (147, .new 127, 3), (150, .dup, 1), (151, .invokespecial 129, 3), (154, .ldc 163, 2), (156, .invokevirtual 130, 3), (159, .iload 4, 2), (161, .invokestatic 165, 3), (164, .invokevirtual 130, 3), (167, .aload_n 0, 1), (168, .getfield 16, 3), (171, .iload 4, 2), (173, .iaload, 1), (174, .iconst 5, 1), (175, .if_icmp .ne 8, 3), (178, .ldc 125, 2), (180, .goto 28, 3), (183, .new 127, 3), (186, .dup, 1), (187, .invokespecial 129, 3), (190, .ldc 121, 2), (192, .invokevirtual 130, 3), (195, .aload_n 0, 1), (196, .getfield 16, 3), (199, .iload 4, 2), (201, .iaload, 1), (202, .invokevirtual 169, 3), (205, .invokevirtual 137, 3), (208, .invokevirtual 130, 3), (211, .invokevirtual 137, 3), (214, .invokevirtual 172, 3), (217, .pop, 1), (218, .iinc 4 1, 3), (221, .goto (-112), 3), (224, .aload_n 0, 1), (225, .iconst 3, 1), (226, .invokevirtual 75, 3), (229, .istore 4, 2), (231, .iload 4, 2), (233, .ifCond .le 105, 3), (236, .aload_n 0, 1), (237, .getfield 23, 3), (240, .aload_n 0, 1), (241, .aload_n 0, 1), (242, .getfield 87, 3), (245, .iconst 2, 1), (246, .invokevirtual 83, 3), (249, .invokevirtual 176, 3), (252, .pop, 1), (253, .aload_n 0, 1), (254, .invokevirtual 180, 3), (257, .ifCond .eq 58, 3)]
theorem kL_told_1 : ckI cL_told iL_told_1 = true := by decide +kernel
def iL_told_2 : List (Nat × Instr × Nat) := [(260, .aload_n 0, 1), (261, .aload_n 3, 1), (262, .new 127, 3), (265, .dup, 1), (266, .invokespecial 129, 3), (269, .ldc 183, 2), (271, .invokevirtual 130, 3), (274, .aload_n 0, 1), (275, .invokevirtual 144, 3), (278, .invokevirtual 130, 3), (281, .aload_n 0, 1), (282, .getfield 23, 3), (285, .aload_n 0, 1), (286, .getfield 23, 3), (289, .invokevirtual 185, 3), (292, .iconst 1, 1), (293, .isub, 1), (294, .invokevirtual 188, 3), (297, .checkcast 78, 3), (300, .invokevirtual 192, 3), (303, .invokevirtual 130, 3), (306, .invokevirtual 137, 3), (309, .invokevirtual 172, 3), (312, .ifCond .ne 20, 3), (315, .aload_n 0, 1), (316, .getfield 23, 3), (319, .aload_n 0, 1), (320, .getfield 23, 3), (323, .invokevirtual 185, 3), (326, .iconst 1, 1), (327, .isub, 1), (328, .invokevirtual 195, 3), (331, .pop, 1), (332, .iinc 4 (-1), 3), (335, .goto (-104), 3), (338, .aload_n 0, 1), (339, .iconst 2, 1), (340, .invokevirtual 75, 3), (343, .ifCond .ne 44, 3), (346, .aload_n 0, 1), (347, .iconst 1, 1), (348, .aload_n 0, 1), (349, .sipush 600, 3), (352, .invokevirtual 75, 3), (355, .iadd, 1), (356, .putfield 153, 3), (359, .aload_n 0, 1), (360, .aload_n 3, 1), (361, .new 127, 3), (364, .dup, 1), (365, .invokespecial 129, 3), (368, .ldc 198, 2), (370, .invokevirtual 130, 3), (373, .aload_n 0, 1), (374, .getfield 153, 3), (377, .invokevirtual 169, 3), (380, .invokevirtual 137, 3), (383, .invokevirtual 172, 3), (386, .pop, 1), (387, .iconst 0, 1), (388, .istore 4, 2), (390, .iload 4, 2), (392, .iload_n 2, 1), (393, .if_icmp .ge 554, 3)]
theorem kL_told_2 : ckI cL_told iL_told_2 = true := by decide +kernel
def iL_told_3 : List (Nat × Instr × Nat) := [(396, .iconst 1, 1), (397, .aload_n 0, 1), (398, .iconst 3, 1), (399, .invokevirtual 75, 3), (402, .iadd, 1), (403, .anewarray 78, 3), (406, .astore 5, 2), (408, .aload_n 0, 1), (409, .iconst 2, 1), (410, .invokevirtual 75, 3), (413, .anewarray 78, 3), (416, .astore 6, 2), (418, .aload_n 0, 1), (419, .iconst 2, 1), (420, .invokevirtual 75, 3), (423, .ifCond .ne 14, 3), (426, .bipush 10, 2), (428, .aload_n 0, 1), (429, .iconst 4, 1), (430, .invokevirtual 75, 3), (433, .imul, 1), (434, .goto 10, 3), (437, .aload_n 0, 1), (438, .sipush 1000, 3), (441, .invokevirtual 75, 3), (444, .istore 7, 2), (446, .aload_n 0, 1), (447, .sipush 700, 3), (450, .invokevirtual 75, 3), (453, .istore 8, 2), (455, .new 127, 3), (458, .dup, 1), (459, .new 127, 3), (462, .dup, 1), (463, .invokespecial 129, 3), (466, .ldc 200, 2), (468, .invokevirtual 130, 3), (471, .iload 4, 2), (473, .invokestatic 202, 3), (476, .invokevirtual 130, 3), (479, .ldc 205, 2), (481, .invokevirtual 130, 3), (484, .iload 7, 2), (486, .invokevirtual 169, 3), (489, .ldc 207, 2), (491, .invokevirtual 130, 3), (494, .iload 8, 2), (496, .invokevirtual 169, 3), (499, .invokevirtual 137, 3), (502, .invokespecial 150, 3), (505, .astore 9, 2), (507, .iconst 0, 1), (508, .istore 10, 2), (510, .iload 10, 2), (512, .aload 5, 2), (514, .arraylength, 1), (515, .if_icmp .ge 53, 3), (518, .aload 5, 2), (520, .iload 10, 2), (522, .aload_n 0, 1), (523, .aload_n 0, 1), (524, .getfield 87, 3), (527, .aload_n 0, 1), (528, .iconst 3, 1)]
theorem kL_told_3 : ckI cL_told iL_told_3 = true := by decide +kernel
def iL_told_4 : List (Nat × Instr × Nat) := [(529, .invokevirtual 75, 3), (532, .invokevirtual 83, 3), (535, .aastore, 1), (536, .aload 9, 2), (538, .aload_n 0, 1), (539, .invokevirtual 144, 3), (542, .invokevirtual 130, 3), (545, .ldc 209, 2), (547, .invokevirtual 130, 3), (550, .aload 5, 2), (552, .iload 10, 2), (554, .aaload, 1), (555, .invokevirtual 192, 3), (558, .invokevirtual 130, 3), (561, .pop, 1), (562, .iinc 10 1, 3), (565, .goto (-55), 3), (568, .aload_n 0, 1), (569, .aload_n 3, 1), (570, .aload 9, 2), (572, .invokevirtual 137, 3), (575, .invokevirtual 172, 3), (578, .ifCond .ne 6, 3), (581, .goto 366, 3), (584, .aload 6, 2), (586, .arraylength, 1), (587, .iconst 1, 1), (588, .if_icmp .ne 16, 3), (591, .aload 6, 2), (593, .iconst 0, 1), (594, .aload_n 0, 1), (595, .aload_n 0, 1), (596, .getfield 87, 3), (599, .iconst 1, 1), (600, .invokevirtual 83, 3), (603, .aastore, 1), (604, .aload 6, 2), (606, .arraylength, 1), (607, .iconst 1, 1), (608, .if_icmp .ne 55, 3), (611, .aload_n 0, 1), (612, .aload_n 3, 1), (613, .new 127, 3), (616, .dup, 1), (617, .invokespecial 129, 3), (620, .ldc 211, 2), (622, .invokevirtual 130, 3), (625, .iload 4, 2), (627, .invokestatic 202, 3), (630, .invokevirtual 130, 3), (633, .ldc 121, 2), (635, .invokevirtual 130, 3), (638, .aload 6, 2), (640, .iconst 0, 1), (641, .aaload, 1), (642, .invokevirtual 192, 3), (645, .invokevirtual 130, 3), (648, .invokevirtual 137, 3), (651, .invokevirtual 172, 3), (654, .ifCond .ne 9, 3), (657, .iconst 0, 1), (658, .anewarray 78, 3), (661, .astore 6, 2), (663, .new 213, 3)]
theorem kL_told_4 : ckI cL_told iL_told_4 = true := by decide +kernel
def iL_told_5 : List (Nat × Instr × Nat) := [(666, .dup, 1), (667, .aload 5, 2), (669, .aload 6, 2), (671, .invokespecial 215, 3), (674, .astore 10, 2), (676, .aload 10, 2), (678, .iload 7, 2), (680, .putfield 218, 3), (683, .aload 10, 2), (685, .iload 8, 2), (687, .putfield 221, 3), (690, .aload 10, 2), (692, .iload 4, 2), (694, .putfield 224, 3), (697, .aload_n 0, 1), (698, .getfield 109, 3), (701, .getfield 227, 3), (704, .aload 10, 2), (706, .invokevirtual 176, 3), (709, .pop, 1), (710, .aload_n 0, 1), (711, .iconst 4, 1), (712, .invokevirtual 75, 3), (715, .istore 11, 2), (717, .iload 11, 2), (719, .ifCond .le 135, 3), (722, .aload_n 0, 1), (723, .aload_n 0, 1), (724, .getfield 87, 3), (727, .invokevirtual 75, 3), (730, .istore 12, 2), (732, .aload_n 0, 1), (733, .iconst 4, 1), (734, .invokevirtual 75, 3), (737, .ifCond .ne 7, 3), (740, .iconst 0, 1), (741, .goto 4, 3), (744, .iconst 1, 1), (745, .istore 13, 2), (747, .aload 10, 2), (749, .getfield 230, 3), (752, .iload 12, 2), (754, .ishr, 1), (755, .iconst 1, 1), (756, .iand, 1), (757, .iconst 1, 1), (758, .if_icmp .eq 90, 3), (761, .aload_n 0, 1), (762, .aload_n 3, 1), (763, .new 127, 3), (766, .dup, 1), (767, .invokespecial 129, 3), (770, .ldc 233, 2), (772, .invokevirtual 130, 3), (775, .iload 4, 2), (777, .invokestatic 202, 3), (780, .invokevirtual 130, 3), (783, .iload 13, 2), (785, .iconst 1, 1), (786, .if_icmp .ne 8, 3), (789, .ldc 121, 2), (791, .goto 5, 3), (794, .ldc 235, 2), (796, .invokevirtual 130, 3)]
theorem kL_told_5 : ckI cL_told iL_told_5 = true := by decide +kernel
def iL_told_6 : List (Nat × Instr × Nat) := [(799, .iload 12, 2), (801, .invokestatic 165, 3), (804, .invokevirtual 130, 3), (807, .invokevirtual 137, 3), (810, .invokevirtual 172, 3), (813, .ifCond .ne 6, 3), (816, .goto 32, 3), (819, .aload 10, 2), (821, .dup, 1), (822, .getfield 230, 3), (825, .iconst 1, 1), (826, .iload 12, 2), (828, .ishl, 1), (829, .ior, 1), (830, .putfield 230, 3), (833, .aload 10, 2), (835, .dup, 1), (836, .getfield 237, 3), (839, .iload 13, 2), (841, .iload 12, 2), (843, .ishl, 1), (844, .ior, 1), (845, .putfield 237, 3), (848, .iinc 11 (-1), 3), (851, .goto (-134), 3), (854, .iload 4, 2), (856, .ifCond .le 85, 3), (859, .aload_n 0, 1), (860, .iconst 2, 1), (861, .invokevirtual 75, 3), (864, .ifCond .ne 77, 3), (867, .aload_n 0, 1), (868, .iload 4, 2), (870, .invokevirtual 75, 3), (873, .istore 11, 2), (875, .aload_n 0, 1), (876, .aload_n 3, 1), (877, .new 127, 3), (880, .dup, 1), (881, .invokespecial 129, 3), (884, .ldc 240, 2), (886, .invokevirtual 130, 3), (889, .iload 4, 2), (891, .invokestatic 202, 3), (894, .invokevirtual 130, 3), (897, .ldc 121, 2), (899, .invokevirtual 130, 3), (902, .iload 11, 2), (904, .invokestatic 202, 3), (907, .invokevirtual 130, 3), (910, .invokevirtual 137, 3), (913, .invokevirtual 172, 3), (916, .ifCond .eq 25, 3), (919, .aload_n 0, 1), (920, .getfield 29, 3), (923, .iload 4, 2), (925, .aaload, 1), (926, .iload 11, 2), (928, .iconst 1, 1), (929, .bastore, 1), (930, .aload_n 0, 1), (931, .getfield 29, 3), (934, .iload 11, 2), (936, .aaload, 1)]
theorem kL_told_6 : ckI cL_told iL_told_6 = true := by decide +kernel
def iL_told_7 : List (Nat × Instr × Nat) := [(937, .iload 4, 2), (939, .iconst 1, 1), (940, .bastore, 1), (941, .iinc 4 1, 3), (944, .goto (-554), 3), (947, .aload_n 0, 1), (948, .aload_n 3, 1), (949, .invokevirtual 137, 3), (952, .invokevirtual 242, 3), (955, .aload_n 0, 1), (956, .getfield 10, 3), (959, .invokevirtual 245, 3), (962, .aload_n 0, 1), (963, .getfield 147, 3), (966, .if_icmp .ne 42, 3), (969, .aload_n 0, 1), (970, .getfield 10, 3), (973, .iconst 0, 1), (974, .invokevirtual 248, 3), (977, .ifCond .ne 31, 3), (980, .aload_n 0, 1), (981, .getfield 10, 3), (984, .iconst 1, 1), (985, .invokevirtual 248, 3), (988, .iconst (-1), 1), (989, .if_icmp .ne 19, 3), (992, .aload_n 0, 1), (993, .getfield 10, 3), (996, .bipush 8, 2), (998, .invokevirtual 251, 3), (1001, .ifCond .ne 7, 3), (1004, .iconst 1, 1), (1005, .goto 4, 3), (1008, .iconst 0, 1), (1009, .ireturn, 1)]
theorem kL_told_7 : ckI cL_told iL_told_7 = true := by decide +kernel
theorem my_L_told : MY mi_L_told 2 := ⟨tb4 (i := 25) (by rfl) rfl, tb1 (i := 0) (by decide +kernel) rfl, by decide, by decide +kernel, by decide +kernel, by decide +kernel⟩
theorem vs_L_told : Cond.instanceMethod mi_L_told.1 ∈ TB ∧ Cond.selects RL mi_L_told.1 mi_L_told.1 ∈ TB := ⟨tb4 (i := 24) (by decide +kernel) rfl, sel2 (i := 4) (by decide +kernel)⟩
