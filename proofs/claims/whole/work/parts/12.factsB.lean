def RJ11 : String := "java/lang/Character"
def RJ6 : String := "java/lang/Integer"
def RJ13 : String := "java/lang/Long"
def RJ9 : String := "java/lang/Math"
def RJ0 : String := "java/lang/String"
def RJ1 : String := "java/lang/StringLatin1"
def RJ2 : String := "java/lang/StringUTF16"
def RJ3 : String := "jdk/internal/util/Preconditions"
def RL : String := "StruckCountsLaw"
abbrev cX11_copyRow : ByteArray := prog_1_method_72_code
def yX11_copyRow : MethodName := ⟨RX11, "copyRow", "([I[I)V"⟩
abbrev mi_X11_copyRow : Mi := (yX11_copyRow, cX11_copyRow, 3, none)
def iX11_copyRow_0 : List (Nat × Instr × Nat) := [(0, .iconst 0, 1), (1, .istore_n 2, 1), (2, .iload_n 2, 1), (3, .aload_n 0, 1), (4, .arraylength, 1), (5, .if_icmp .ge 21, 3), (8, .iload_n 2, 1), (9, .aload_n 1, 1), (10, .arraylength, 1), (11, .if_icmp .ge 15, 3), (14, .aload_n 1, 1), (15, .iload_n 2, 1), (16, .aload_n 0, 1), (17, .iload_n 2, 1), (18, .iaload, 1), (19, .iastore, 1), (20, .iinc 2 1, 3), (23, .goto (-21), 3), (26, .return_, 1)]
theorem kX11_copyRow_0 : ckI cX11_copyRow iX11_copyRow_0 = true := by decide +kernel
theorem my_X11_copyRow : MY mi_X11_copyRow 2 := ⟨tb5 (i := 85) (by decide +kernel) rfl, tb1 (i := 1) (by decide +kernel) rfl, by decide, by decide +kernel, by decide +kernel, by decide +kernel⟩
theorem st_X11_copyRow : Cond.static mi_X11_copyRow.1 ∈ TB := tb5 (i := 84) (by decide +kernel) rfl
abbrev cX5_copy : ByteArray := prog_7_method_3_code
def yX5_copy : MethodName := ⟨RX5, "copy", "(LStruckCounts$State;)V"⟩
abbrev mi_X5_copy : Mi := (yX5_copy, cX5_copy, 2, none)
def iX5_copy_0 : List (Nat × Instr × Nat) := [(0, .aload_n 0, 1), (1, .aload_n 1, 1), (2, .getfield 30, 3), (5, .putfield 30, 3), (8, .aload_n 0, 1), (9, .aload_n 1, 1), (10, .getfield 34, 3), (13, .putfield 34, 3), (16, .aload_n 0, 1), (17, .aload_n 1, 1), (18, .getfield 38, 3), (21, .putfield 38, 3), (24, .aload_n 0, 1), (25, .aload_n 1, 1), (26, .getfield 41, 3), (29, .putfield 41, 3), (32, .aload_n 0, 1), (33, .aload_n 1, 1), (34, .getfield 44, 3), (37, .putfield 44, 3), (40, .aload_n 0, 1), (41, .aload_n 1, 1), (42, .getfield 47, 3), (45, .putfield 47, 3), (48, .aload_n 0, 1), (49, .aload_n 1, 1), (50, .getfield 50, 3), (53, .putfield 50, 3), (56, .aload_n 0, 1), (57, .aload_n 1, 1), (58, .getfield 53, 3), (61, .putfield 53, 3), (64, .aload_n 0, 1), (65, .aload_n 1, 1), (66, .getfield 56, 3), (69, .putfield 56, 3), (72, .aload_n 1, 1), (73, .getfield 9, 3), (76, .aload_n 0, 1), (77, .getfield 9, 3), (80, .invokestatic 59, 3), (83, .aload_n 1, 1), (84, .getfield 15, 3), (87, .aload_n 0, 1), (88, .getfield 15, 3), (91, .invokestatic 59, 3), (94, .aload_n 1, 1), (95, .getfield 18, 3), (98, .aload_n 0, 1), (99, .getfield 18, 3), (102, .invokestatic 59, 3), (105, .aload_n 1, 1), (106, .getfield 21, 3), (109, .aload_n 0, 1), (110, .getfield 21, 3), (113, .invokestatic 59, 3), (116, .aload_n 1, 1), (117, .getfield 24, 3), (120, .aload_n 0, 1), (121, .getfield 24, 3), (124, .invokestatic 59, 3), (127, .aload_n 1, 1), (128, .getfield 27, 3), (131, .aload_n 0, 1)]
theorem kX5_copy_0 : ckI cX5_copy iX5_copy_0 = true := by decide +kernel
def iX5_copy_1 : List (Nat × Instr × Nat) := [(132, .getfield 27, 3), (135, .invokestatic 59, 3), (138, .return_, 1)]
theorem kX5_copy_1 : ckI cX5_copy iX5_copy_1 = true := by decide +kernel
theorem my_X5_copy : MY mi_X5_copy 1 := ⟨tb5 (i := 82) (by decide +kernel) rfl, tb1 (i := 11) (by decide +kernel) rfl, by decide, by decide +kernel, by decide +kernel, by decide +kernel⟩
theorem vs_X5_copy : Cond.instanceMethod mi_X5_copy.1 ∈ TB ∧ Cond.selects RX5 mi_X5_copy.1 mi_X5_copy.1 ∈ TB := ⟨tb5 (i := 81) (by decide +kernel) rfl, sel6 (i := 5) (by decide +kernel)⟩
abbrev cX11_has : ByteArray := prog_1_method_66_code
def yX11_has : MethodName := ⟨RX11, "has", "(II)Z"⟩
abbrev mi_X11_has : Mi := (yX11_has, cX11_has, 2, (some .boolean))
def iX11_has_0 : List (Nat × Instr × Nat) := [(0, .iload_n 0, 1), (1, .iload_n 1, 1), (2, .ishr, 1), (3, .iconst 1, 1), (4, .iand, 1), (5, .ifCond .eq 7, 3), (8, .iconst 1, 1), (9, .goto 4, 3), (12, .iconst 0, 1), (13, .ireturn, 1)]
theorem kX11_has_0 : ckI cX11_has iX11_has_0 = true := by decide +kernel
theorem my_X11_has : MY mi_X11_has 2 := ⟨tb3 (i := 26) (by decide +kernel) rfl, tb1 (i := 1) (by decide +kernel) rfl, by decide, by decide +kernel, by decide +kernel, by decide +kernel⟩
theorem st_X11_has : Cond.static mi_X11_has.1 ∈ TB := tb3 (i := 25) (by decide +kernel) rfl
abbrev cX11_wipe : ByteArray := prog_1_method_71_code
def yX11_wipe : MethodName := ⟨RX11, "wipe", "([I)V"⟩
abbrev mi_X11_wipe : Mi := (yX11_wipe, cX11_wipe, 2, none)
def iX11_wipe_0 : List (Nat × Instr × Nat) := [(0, .iconst 0, 1), (1, .istore_n 1, 1), (2, .iload_n 1, 1), (3, .aload_n 0, 1), (4, .arraylength, 1), (5, .if_icmp .ge 13, 3), (8, .aload_n 0, 1), (9, .iload_n 1, 1), (10, .iconst 0, 1), (11, .iastore, 1), (12, .iinc 1 1, 3), (15, .goto (-13), 3), (18, .return_, 1)]
theorem kX11_wipe_0 : ckI cX11_wipe iX11_wipe_0 = true := by decide +kernel
theorem my_X11_wipe : MY mi_X11_wipe 1 := ⟨tb3 (i := 6) (by decide +kernel) rfl, tb1 (i := 1) (by decide +kernel) rfl, by decide, by decide +kernel, by decide +kernel, by decide +kernel⟩
theorem st_X11_wipe : Cond.static mi_X11_wipe.1 ∈ TB := tb3 (i := 5) (by decide +kernel) rfl
abbrev cX10_fill : ByteArray := prog_12_method_3_code
def yX10_fill : MethodName := ⟨RX10, "fill", "()V"⟩
abbrev mi_X10_fill : Mi := (yX10_fill, cX10_fill, 2, none)
def iX10_fill_0 : List (Nat × Instr × Nat) := [(0, .iconst 0, 1), (1, .istore_n 1, 1), (2, .iload_n 1, 1), (3, .aload_n 0, 1), (4, .getfield 9, 3), (7, .arraylength, 1), (8, .if_icmp .ge 18, 3), (11, .aload_n 0, 1), (12, .getfield 9, 3), (15, .iload_n 1, 1), (16, .ldc2_w 18, 3), (19, .lastore, 1), (20, .iinc 1 1, 3), (23, .goto (-21), 3), (26, .return_, 1)]
theorem kX10_fill_0 : ckI cX10_fill iX10_fill_0 = true := by decide +kernel
theorem my_X10_fill : MY mi_X10_fill 0 := ⟨tb3 (i := 10) (by decide +kernel) rfl, tb1 (i := 10) (by decide +kernel) rfl, by decide, by decide +kernel, by decide +kernel, by decide +kernel⟩
theorem vs_X10_fill : Cond.instanceMethod mi_X10_fill.1 ∈ TB ∧ Cond.selects RX10 mi_X10_fill.1 mi_X10_fill.1 ∈ TB := ⟨tb3 (i := 9) (by decide +kernel) rfl, sel1 (i := 1) (by decide +kernel)⟩
abbrev cX11_at : ByteArray := prog_1_method_67_code
def yX11_at : MethodName := ⟨RX11, "at", "([II)I"⟩
abbrev mi_X11_at : Mi := (yX11_at, cX11_at, 2, (some .int))
def iX11_at_0 : List (Nat × Instr × Nat) := [(0, .iload_n 1, 1), (1, .ifCond .lt 15, 3), (4, .iload_n 1, 1), (5, .aload_n 0, 1), (6, .arraylength, 1), (7, .if_icmp .ge 9, 3), (10, .aload_n 0, 1), (11, .iload_n 1, 1), (12, .iaload, 1), (13, .goto 4, 3), (16, .iconst 0, 1), (17, .ireturn, 1)]
theorem kX11_at_0 : ckI cX11_at iX11_at_0 = true := by decide +kernel
theorem my_X11_at : MY mi_X11_at 2 := ⟨tb2 (i := 167) (by decide +kernel) rfl, tb1 (i := 1) (by decide +kernel) rfl, by decide, by decide +kernel, by decide +kernel, by decide +kernel⟩
theorem st_X11_at : Cond.static mi_X11_at.1 ∈ TB := tb2 (i := 166) (by decide +kernel) rfl
abbrev cX11_longAt : ByteArray := prog_1_method_69_code
def yX11_longAt : MethodName := ⟨RX11, "longAt", "([JI)J"⟩
abbrev mi_X11_longAt : Mi := (yX11_longAt, cX11_longAt, 2, (some .long))
def iX11_longAt_0 : List (Nat × Instr × Nat) := [(0, .iload_n 1, 1), (1, .ifCond .lt 15, 3), (4, .iload_n 1, 1), (5, .aload_n 0, 1), (6, .arraylength, 1), (7, .if_icmp .ge 9, 3), (10, .aload_n 0, 1), (11, .iload_n 1, 1), (12, .laload, 1), (13, .goto 4, 3), (16, .lconst 0, 1), (17, .lreturn, 1)]
theorem kX11_longAt_0 : ckI cX11_longAt iX11_longAt_0 = true := by decide +kernel
theorem my_X11_longAt : MY mi_X11_longAt 2 := ⟨tb3 (i := 70) (by decide +kernel) rfl, tb1 (i := 1) (by decide +kernel) rfl, by decide, by decide +kernel, by decide +kernel, by decide +kernel⟩
theorem st_X11_longAt : Cond.static mi_X11_longAt.1 ∈ TB := tb3 (i := 69) (by decide +kernel) rfl
abbrev cX11_putLong : ByteArray := prog_1_method_70_code
def yX11_putLong : MethodName := ⟨RX11, "putLong", "([JIJ)V"⟩
abbrev mi_X11_putLong : Mi := (yX11_putLong, cX11_putLong, 4, none)
def iX11_putLong_0 : List (Nat × Instr × Nat) := [(0, .iload_n 1, 1), (1, .ifCond .lt 13, 3), (4, .iload_n 1, 1), (5, .aload_n 0, 1), (6, .arraylength, 1), (7, .if_icmp .ge 7, 3), (10, .aload_n 0, 1), (11, .iload_n 1, 1), (12, .lload_n 2, 1), (13, .lastore, 1), (14, .return_, 1)]
theorem kX11_putLong_0 : ckI cX11_putLong iX11_putLong_0 = true := by decide +kernel
theorem my_X11_putLong : MY mi_X11_putLong 3 := ⟨tb3 (i := 73) (by decide +kernel) rfl, tb1 (i := 1) (by decide +kernel) rfl, by decide, by decide +kernel, by decide +kernel, by decide +kernel⟩
theorem st_X11_putLong : Cond.static mi_X11_putLong.1 ∈ TB := tb3 (i := 72) (by decide +kernel) rfl
abbrev cX11_needSlot : ByteArray := prog_1_method_65_code
def yX11_needSlot : MethodName := ⟨RX11, "needSlot", "(II)I"⟩
abbrev mi_X11_needSlot : Mi := (yX11_needSlot, cX11_needSlot, 2, (some .int))
def iX11_needSlot_0 : List (Nat × Instr × Nat) := [(0, .iconst 4, 1), (1, .iload_n 0, 1), (2, .imul, 1), (3, .iload_n 1, 1), (4, .iadd, 1), (5, .ireturn, 1)]
theorem kX11_needSlot_0 : ckI cX11_needSlot iX11_needSlot_0 = true := by decide +kernel
theorem my_X11_needSlot : MY mi_X11_needSlot 2 := ⟨tb3 (i := 84) (by decide +kernel) rfl, tb1 (i := 1) (by decide +kernel) rfl, by decide, by decide +kernel, by decide +kernel, by decide +kernel⟩
theorem st_X11_needSlot : Cond.static mi_X11_needSlot.1 ∈ TB := tb3 (i := 83) (by decide +kernel) rfl
abbrev cX10_and : ByteArray := prog_12_method_5_code
def yX10_and : MethodName := ⟨RX10, "and", "(LStruckCounts$Worlds;)V"⟩
abbrev mi_X10_and : Mi := (yX10_and, cX10_and, 3, none)
def iX10_and_0 : List (Nat × Instr × Nat) := [(0, .iconst 0, 1), (1, .istore_n 2, 1), (2, .iload_n 2, 1), (3, .aload_n 0, 1), (4, .getfield 9, 3), (7, .arraylength, 1), (8, .if_icmp .ge 33, 3), (11, .iload_n 2, 1), (12, .aload_n 1, 1), (13, .getfield 9, 3), (16, .arraylength, 1), (17, .if_icmp .ge 24, 3), (20, .aload_n 0, 1), (21, .getfield 9, 3), (24, .iload_n 2, 1), (25, .dup2, 1), (26, .laload, 1), (27, .aload_n 1, 1), (28, .getfield 9, 3), (31, .iload_n 2, 1), (32, .laload, 1), (33, .land, 1), (34, .lastore, 1), (35, .iinc 2 1, 3), (38, .goto (-36), 3), (41, .return_, 1)]
theorem kX10_and_0 : ckI cX10_and iX10_and_0 = true := by decide +kernel
theorem my_X10_and : MY mi_X10_and 1 := ⟨tb3 (i := 88) (by decide +kernel) rfl, tb1 (i := 10) (by decide +kernel) rfl, by decide, by decide +kernel, by decide +kernel, by decide +kernel⟩
theorem vs_X10_and : Cond.instanceMethod mi_X10_and.1 ∈ TB ∧ Cond.selects RX10 mi_X10_and.1 mi_X10_and.1 ∈ TB := ⟨tb3 (i := 87) (by decide +kernel) rfl, sel1 (i := 15) (by decide +kernel)⟩
abbrev cX10_minus : ByteArray := prog_12_method_6_code
def yX10_minus : MethodName := ⟨RX10, "minus", "(LStruckCounts$Worlds;)V"⟩
abbrev mi_X10_minus : Mi := (yX10_minus, cX10_minus, 3, none)
def iX10_minus_0 : List (Nat × Instr × Nat) := [(0, .iconst 0, 1), (1, .istore_n 2, 1), (2, .iload_n 2, 1), (3, .aload_n 0, 1), (4, .getfield 9, 3), (7, .arraylength, 1), (8, .if_icmp .ge 37, 3), (11, .iload_n 2, 1), (12, .aload_n 1, 1), (13, .getfield 9, 3), (16, .arraylength, 1), (17, .if_icmp .ge 28, 3), (20, .aload_n 0, 1), (21, .getfield 9, 3), (24, .iload_n 2, 1), (25, .dup2, 1), (26, .laload, 1), (27, .aload_n 1, 1), (28, .getfield 9, 3), (31, .iload_n 2, 1), (32, .laload, 1), (33, .ldc2_w 18, 3), (36, .lxor, 1), (37, .land, 1), (38, .lastore, 1), (39, .iinc 2 1, 3), (42, .goto (-40), 3), (45, .return_, 1)]
theorem kX10_minus_0 : ckI cX10_minus iX10_minus_0 = true := by decide +kernel
theorem my_X10_minus : MY mi_X10_minus 1 := ⟨tb3 (i := 92) (by decide +kernel) rfl, tb1 (i := 10) (by decide +kernel) rfl, by decide, by decide +kernel, by decide +kernel, by decide +kernel⟩
theorem vs_X10_minus : Cond.instanceMethod mi_X10_minus.1 ∈ TB ∧ Cond.selects RX10 mi_X10_minus.1 mi_X10_minus.1 ∈ TB := ⟨tb3 (i := 91) (by decide +kernel) rfl, sel2 (i := 0) (by decide +kernel)⟩
abbrev cX11_put : ByteArray := prog_1_method_68_code
def yX11_put : MethodName := ⟨RX11, "put", "([III)V"⟩
abbrev mi_X11_put : Mi := (yX11_put, cX11_put, 3, none)
def iX11_put_0 : List (Nat × Instr × Nat) := [(0, .iload_n 1, 1), (1, .ifCond .lt 13, 3), (4, .iload_n 1, 1), (5, .aload_n 0, 1), (6, .arraylength, 1), (7, .if_icmp .ge 7, 3), (10, .aload_n 0, 1), (11, .iload_n 1, 1), (12, .iload_n 2, 1), (13, .iastore, 1), (14, .return_, 1)]
theorem kX11_put_0 : ckI cX11_put iX11_put_0 = true := by decide +kernel
theorem my_X11_put : MY mi_X11_put 3 := ⟨tb1 (i := 109) (by decide +kernel) rfl, tb1 (i := 1) (by decide +kernel) rfl, by decide, by decide +kernel, by decide +kernel, by decide +kernel⟩
theorem st_X11_put : Cond.static mi_X11_put.1 ∈ TB := tb1 (i := 108) (by decide +kernel) rfl
abbrev cX10_within : ByteArray := prog_12_method_11_code
def yX10_within : MethodName := ⟨RX10, "within", "(LStruckCounts$Worlds;)Z"⟩
abbrev mi_X10_within : Mi := (yX10_within, cX10_within, 3, (some .boolean))
def iX10_within_0 : List (Nat × Instr × Nat) := [(0, .iconst 0, 1), (1, .istore_n 2, 1), (2, .iload_n 2, 1), (3, .aload_n 0, 1), (4, .getfield 9, 3), (7, .arraylength, 1), (8, .if_icmp .ge 42, 3), (11, .iload_n 2, 1), (12, .aload_n 1, 1), (13, .getfield 9, 3), (16, .arraylength, 1), (17, .if_icmp .ge 33, 3), (20, .aload_n 0, 1), (21, .getfield 9, 3), (24, .iload_n 2, 1), (25, .laload, 1), (26, .aload_n 1, 1), (27, .getfield 9, 3), (30, .iload_n 2, 1), (31, .laload, 1), (32, .ldc2_w 18, 3), (35, .lxor, 1), (36, .land, 1), (37, .lconst 0, 1), (38, .lcmp, 1), (39, .ifCond .eq 5, 3), (42, .iconst 0, 1), (43, .ireturn, 1), (44, .iinc 2 1, 3), (47, .goto (-45), 3), (50, .iconst 1, 1), (51, .ireturn, 1)]
theorem kX10_within_0 : ckI cX10_within iX10_within_0 = true := by decide +kernel
theorem my_X10_within : MY mi_X10_within 1 := ⟨tb5 (i := 24) (by decide +kernel) rfl, tb1 (i := 10) (by decide +kernel) rfl, by decide, by decide +kernel, by decide +kernel, by decide +kernel⟩
theorem vs_X10_within : Cond.instanceMethod mi_X10_within.1 ∈ TB ∧ Cond.selects RX10 mi_X10_within.1 mi_X10_within.1 ∈ TB := ⟨tb5 (i := 23) (by decide +kernel) rfl, sel5 (i := 11) (by decide +kernel)⟩
abbrev cX10_meets : ByteArray := prog_12_method_12_code
def yX10_meets : MethodName := ⟨RX10, "meets", "(LStruckCounts$Worlds;)Z"⟩
abbrev mi_X10_meets : Mi := (yX10_meets, cX10_meets, 3, (some .boolean))
def iX10_meets_0 : List (Nat × Instr × Nat) := [(0, .iconst 0, 1), (1, .istore_n 2, 1), (2, .iload_n 2, 1), (3, .aload_n 0, 1), (4, .getfield 9, 3), (7, .arraylength, 1), (8, .if_icmp .ge 38, 3), (11, .iload_n 2, 1), (12, .aload_n 1, 1), (13, .getfield 9, 3), (16, .arraylength, 1), (17, .if_icmp .ge 29, 3), (20, .aload_n 0, 1), (21, .getfield 9, 3), (24, .iload_n 2, 1), (25, .laload, 1), (26, .aload_n 1, 1), (27, .getfield 9, 3), (30, .iload_n 2, 1), (31, .laload, 1), (32, .land, 1), (33, .lconst 0, 1), (34, .lcmp, 1), (35, .ifCond .eq 5, 3), (38, .iconst 1, 1), (39, .ireturn, 1), (40, .iinc 2 1, 3), (43, .goto (-41), 3), (46, .iconst 0, 1), (47, .ireturn, 1)]
theorem kX10_meets_0 : ckI cX10_meets iX10_meets_0 = true := by decide +kernel
theorem my_X10_meets : MY mi_X10_meets 1 := ⟨tb5 (i := 32) (by decide +kernel) rfl, tb1 (i := 10) (by decide +kernel) rfl, by decide, by decide +kernel, by decide +kernel, by decide +kernel⟩
theorem vs_X10_meets : Cond.instanceMethod mi_X10_meets.1 ∈ TB ∧ Cond.selects RX10 mi_X10_meets.1 mi_X10_meets.1 ∈ TB := ⟨tb5 (i := 31) (by decide +kernel) rfl, sel5 (i := 13) (by decide +kernel)⟩
abbrev cX10_holds : ByteArray := prog_12_method_14_code
def yX10_holds : MethodName := ⟨RX10, "holds", "(I)Z"⟩
abbrev mi_X10_holds : Mi := (yX10_holds, cX10_holds, 3, (some .boolean))
def iX10_holds_0 : List (Nat × Instr × Nat) := [(0, .iload_n 1, 1), (1, .bipush 6, 2), (3, .ishr, 1), (4, .istore_n 2, 1), (5, .iload_n 2, 1), (6, .ifCond .lt 34, 3), (9, .iload_n 2, 1), (10, .aload_n 0, 1), (11, .getfield 9, 3), (14, .arraylength, 1), (15, .if_icmp .ge 25, 3), (18, .aload_n 0, 1), (19, .getfield 9, 3), (22, .iload_n 2, 1), (23, .laload, 1), (24, .iload_n 1, 1), (25, .bipush 63, 2), (27, .iand, 1), (28, .lushr, 1), (29, .lconst 1, 1), (30, .land, 1), (31, .lconst 0, 1), (32, .lcmp, 1), (33, .ifCond .eq 7, 3), (36, .iconst 1, 1), (37, .goto 4, 3), (40, .iconst 0, 1), (41, .ireturn, 1)]
theorem kX10_holds_0 : ckI cX10_holds iX10_holds_0 = true := by decide +kernel
theorem my_X10_holds : MY mi_X10_holds 1 := ⟨tb5 (i := 194) (by decide +kernel) rfl, tb1 (i := 10) (by decide +kernel) rfl, by decide, by decide +kernel, by decide +kernel, by decide +kernel⟩
theorem vs_X10_holds : Cond.instanceMethod mi_X10_holds.1 ∈ TB ∧ Cond.selects RX10 mi_X10_holds.1 mi_X10_holds.1 ∈ TB := ⟨tb5 (i := 193) (by decide +kernel) rfl, sel7 (i := 0) (by decide +kernel)⟩
abbrev cX5_clear : ByteArray := prog_7_method_2_code
def yX5_clear : MethodName := ⟨RX5, "clear", "()V"⟩
abbrev mi_X5_clear : Mi := (yX5_clear, cX5_clear, 1, none)
def iX5_clear_0 : List (Nat × Instr × Nat) := [(0, .aload_n 0, 1), (1, .iconst 0, 1), (2, .putfield 30, 3), (5, .aload_n 0, 1), (6, .iconst 0, 1), (7, .putfield 34, 3), (10, .aload_n 0, 1), (11, .iconst 0, 1), (12, .putfield 38, 3), (15, .aload_n 0, 1), (16, .iconst 0, 1), (17, .putfield 41, 3), (20, .aload_n 0, 1), (21, .iconst 0, 1), (22, .putfield 44, 3), (25, .aload_n 0, 1), (26, .iconst 0, 1), (27, .putfield 47, 3), (30, .aload_n 0, 1), (31, .iconst 0, 1), (32, .putfield 50, 3), (35, .aload_n 0, 1), (36, .iconst 0, 1), (37, .putfield 53, 3), (40, .aload_n 0, 1), (41, .iconst 0, 1), (42, .putfield 56, 3), (45, .return_, 1)]
theorem kX5_clear_0 : ckI cX5_clear iX5_clear_0 = true := by decide +kernel
theorem my_X5_clear : MY mi_X5_clear 0 := ⟨tb4 (i := 36) (by decide +kernel) rfl, tb1 (i := 11) (by decide +kernel) rfl, by decide, by decide +kernel, by decide +kernel, by decide +kernel⟩
theorem vs_X5_clear : Cond.instanceMethod mi_X5_clear.1 ∈ TB ∧ Cond.selects RX5 mi_X5_clear.1 mi_X5_clear.1 ∈ TB := ⟨tb4 (i := 35) (by decide +kernel) rfl, sel2 (i := 12) (by decide +kernel)⟩
abbrev cJ13_bitCount_95d88 : ByteArray := prog_17_method_50_code
def yJ13_bitCount_95d88 : MethodName := ⟨RJ13, "bitCount", "(J)I"⟩
abbrev mi_J13_bitCount_95d88 : Mi := (yJ13_bitCount_95d88, cJ13_bitCount_95d88, 2, (some .int))
def iJ13_bitCount_95d88_0 : List (Nat × Instr × Nat) := [(0, .lload_n 0, 1), (1, .lload_n 0, 1), (2, .iconst 1, 1), (3, .lushr, 1), (4, .ldc2_w 314, 3), (7, .land, 1), (8, .lsub, 1), (9, .lstore_n 0, 1), (10, .lload_n 0, 1), (11, .ldc2_w 316, 3), (14, .land, 1), (15, .lload_n 0, 1), (16, .iconst 2, 1), (17, .lushr, 1), (18, .ldc2_w 316, 3), (21, .land, 1), (22, .ladd, 1), (23, .lstore_n 0, 1), (24, .lload_n 0, 1), (25, .lload_n 0, 1), (26, .iconst 4, 1), (27, .lushr, 1), (28, .ladd, 1), (29, .ldc2_w 318, 3), (32, .land, 1), (33, .lstore_n 0, 1), (34, .lload_n 0, 1), (35, .lload_n 0, 1), (36, .bipush 8, 2), (38, .lushr, 1), (39, .ladd, 1), (40, .lstore_n 0, 1), (41, .lload_n 0, 1), (42, .lload_n 0, 1), (43, .bipush 16, 2), (45, .lushr, 1), (46, .ladd, 1), (47, .lstore_n 0, 1), (48, .lload_n 0, 1), (49, .lload_n 0, 1), (50, .bipush 32, 2), (52, .lushr, 1), (53, .ladd, 1), (54, .lstore_n 0, 1), (55, .lload_n 0, 1), (56, .l2i, 1), (57, .bipush 127, 2), (59, .iand, 1), (60, .ireturn, 1)]
theorem kJ13_bitCount_95d88_0 : ckI cJ13_bitCount_95d88 iJ13_bitCount_95d88_0 = true := by decide +kernel
theorem my_J13_bitCount_95d88 : MY mi_J13_bitCount_95d88 1 := ⟨tb4 (i := 122) (by decide +kernel) rfl, tb1 (i := 20) (by decide +kernel) rfl, by decide, by decide +kernel, by decide +kernel, by decide +kernel⟩
theorem st_J13_bitCount_95d88 : Cond.static mi_J13_bitCount_95d88.1 ∈ TB := tb4 (i := 121) (by decide +kernel) rfl
abbrev cX10_size : ByteArray := prog_12_method_10_code
def yX10_size : MethodName := ⟨RX10, "size", "()I"⟩
abbrev mi_X10_size : Mi := (yX10_size, cX10_size, 3, (some .int))
def iX10_size_0 : List (Nat × Instr × Nat) := [(0, .iconst 0, 1), (1, .istore_n 1, 1), (2, .iconst 0, 1), (3, .istore_n 2, 1), (4, .iload_n 2, 1), (5, .aload_n 0, 1), (6, .getfield 9, 3), (9, .arraylength, 1), (10, .if_icmp .ge 21, 3), (13, .iload_n 1, 1), (14, .aload_n 0, 1), (15, .getfield 9, 3), (18, .iload_n 2, 1), (19, .laload, 1), (20, .invokestatic 36, 3), (23, .iadd, 1), (24, .istore_n 1, 1), (25, .iinc 2 1, 3), (28, .goto (-24), 3), (31, .iload_n 1, 1), (32, .ireturn, 1)]
theorem kX10_size_0 : ckI cX10_size iX10_size_0 = true := by decide +kernel
theorem my_X10_size : MY mi_X10_size 0 := ⟨tb4 (i := 119) (by decide +kernel) rfl, tb1 (i := 10) (by decide +kernel) rfl, by decide, by decide +kernel, by decide +kernel, by decide +kernel⟩
theorem vs_X10_size : Cond.instanceMethod mi_X10_size.1 ∈ TB ∧ Cond.selects RX10 mi_X10_size.1 mi_X10_size.1 ∈ TB := ⟨tb4 (i := 118) (by decide +kernel) rfl, sel4 (i := 0) (by decide +kernel)⟩
abbrev cX10_isEmpty : ByteArray := prog_12_method_9_code
def yX10_isEmpty : MethodName := ⟨RX10, "isEmpty", "()Z"⟩
abbrev mi_X10_isEmpty : Mi := (yX10_isEmpty, cX10_isEmpty, 1, (some .boolean))
def iX10_isEmpty_0 : List (Nat × Instr × Nat) := [(0, .aload_n 0, 1), (1, .invokevirtual 32, 3), (4, .ifCond .ne 7, 3), (7, .iconst 1, 1), (8, .goto 4, 3), (11, .iconst 0, 1), (12, .ireturn, 1)]
theorem kX10_isEmpty_0 : ckI cX10_isEmpty iX10_isEmpty_0 = true := by decide +kernel
theorem my_X10_isEmpty : MY mi_X10_isEmpty 0 := ⟨tb4 (i := 115) (by decide +kernel) rfl, tb1 (i := 10) (by decide +kernel) rfl, by decide, by decide +kernel, by decide +kernel, by decide +kernel⟩
theorem vs_X10_isEmpty : Cond.instanceMethod mi_X10_isEmpty.1 ∈ TB ∧ Cond.selects RX10 mi_X10_isEmpty.1 mi_X10_isEmpty.1 ∈ TB := ⟨tb4 (i := 114) (by decide +kernel) rfl, sel3 (i := 15) (by decide +kernel)⟩
abbrev cX5_file : ByteArray := prog_7_method_11_code
def yX5_file : MethodName := ⟨RX5, "file", "(III)I"⟩
abbrev mi_X5_file : Mi := (yX5_file, cX5_file, 5, (some .int))
def iX5_file_0 : List (Nat × Instr × Nat) := [(0, .aload_n 0, 1), (1, .getfield 38, 3), (4, .istore 4, 2), (6, .aload_n 0, 1), (7, .getfield 9, 3), (10, .iload 4, 2), (12, .iload_n 1, 1), (13, .invokestatic 77, 3), (16, .aload_n 0, 1), (17, .getfield 15, 3), (20, .iload 4, 2), (22, .iload_n 2, 1), (23, .invokestatic 77, 3), (26, .aload_n 0, 1), (27, .getfield 18, 3), (30, .iload 4, 2), (32, .iload_n 3, 1), (33, .invokestatic 77, 3), (36, .aload_n 0, 1), (37, .getfield 21, 3), (40, .iload 4, 2), (42, .aload_n 0, 1), (43, .getfield 30, 3), (46, .invokestatic 77, 3), (49, .aload_n 0, 1), (50, .getfield 24, 3), (53, .iload 4, 2), (55, .iconst 0, 1), (56, .invokestatic 77, 3), (59, .aload_n 0, 1), (60, .getfield 27, 3), (63, .iload 4, 2), (65, .iconst 0, 1), (66, .invokestatic 77, 3), (69, .aload_n 0, 1), (70, .dup, 1), (71, .getfield 38, 3), (74, .iconst 1, 1), (75, .iadd, 1), (76, .putfield 38, 3), (79, .iload 4, 2), (81, .ireturn, 1)]
theorem kX5_file_0 : ckI cX5_file iX5_file_0 = true := by decide +kernel
theorem my_X5_file : MY mi_X5_file 3 := ⟨tb4 (i := 138) (by decide +kernel) rfl, tb1 (i := 11) (by decide +kernel) rfl, by decide, by decide +kernel, by decide +kernel, by decide +kernel⟩
theorem vs_X5_file : Cond.instanceMethod mi_X5_file.1 ∈ TB ∧ Cond.selects RX5 mi_X5_file.1 mi_X5_file.1 ∈ TB := ⟨tb4 (i := 137) (by decide +kernel) rfl, sel4 (i := 3) (by decide +kernel)⟩
abbrev cX5_tell : ByteArray := prog_7_method_10_code
def yX5_tell : MethodName := ⟨RX5, "tell", "(III)V"⟩
abbrev mi_X5_tell : Mi := (yX5_tell, cX5_tell, 5, none)
def iX5_tell_0 : List (Nat × Instr × Nat) := [(0, .iconst 1, 1), (1, .iload_n 2, 1), (2, .ishl, 1), (3, .istore 4, 2), (5, .aload_n 0, 1), (6, .getfield 24, 3), (9, .iload_n 1, 1), (10, .iload_n 3, 1), (11, .iconst 2, 1), (12, .if_icmp .ge 17, 3), (15, .aload_n 0, 1), (16, .getfield 24, 3), (19, .iload_n 1, 1), (20, .invokestatic 73, 3), (23, .iload 4, 2), (25, .ior, 1), (26, .goto 16, 3), (29, .aload_n 0, 1), (30, .getfield 24, 3), (33, .iload_n 1, 1), (34, .invokestatic 73, 3), (37, .iload 4, 2), (39, .iconst (-1), 1), (40, .ixor, 1), (41, .iand, 1), (42, .invokestatic 77, 3), (45, .aload_n 0, 1), (46, .getfield 27, 3), (49, .iload_n 1, 1), (50, .iload_n 3, 1), (51, .iconst 1, 1), (52, .if_icmp .ne 17, 3), (55, .aload_n 0, 1), (56, .getfield 27, 3), (59, .iload_n 1, 1), (60, .invokestatic 73, 3), (63, .iload 4, 2), (65, .ior, 1), (66, .goto 16, 3), (69, .aload_n 0, 1), (70, .getfield 27, 3), (73, .iload_n 1, 1), (74, .invokestatic 73, 3), (77, .iload 4, 2), (79, .iconst (-1), 1), (80, .ixor, 1), (81, .iand, 1), (82, .invokestatic 77, 3), (85, .return_, 1)]
theorem kX5_tell_0 : ckI cX5_tell iX5_tell_0 = true := by decide +kernel
theorem my_X5_tell : MY mi_X5_tell 3 := ⟨tb4 (i := 157) (by decide +kernel) rfl, tb1 (i := 11) (by decide +kernel) rfl, by decide, by decide +kernel, by decide +kernel, by decide +kernel⟩
theorem vs_X5_tell : Cond.instanceMethod mi_X5_tell.1 ∈ TB ∧ Cond.selects RX5 mi_X5_tell.1 mi_X5_tell.1 ∈ TB := ⟨tb4 (i := 156) (by decide +kernel) rfl, sel4 (i := 7) (by decide +kernel)⟩
abbrev cX3_start : ByteArray := prog_5_method_2_code
def yX3_start : MethodName := ⟨RX3, "start", "(I)V"⟩
abbrev mi_X3_start : Mi := (yX3_start, cX3_start, 2, none)
def iX3_start_0 : List (Nat × Instr × Nat) := [(0, .aload_n 0, 1), (1, .iload_n 1, 1), (2, .putfield 9, 3), (5, .aload_n 0, 1), (6, .iconst 0, 1), (7, .putfield 15, 3), (10, .aload_n 0, 1), (11, .iconst 0, 1), (12, .putfield 18, 3), (15, .aload_n 0, 1), (16, .iconst 0, 1), (17, .putfield 21, 3), (20, .aload_n 0, 1), (21, .iconst 0, 1), (22, .putfield 24, 3), (25, .return_, 1)]
theorem kX3_start_0 : ckI cX3_start iX3_start_0 = true := by decide +kernel
theorem my_X3_start : MY mi_X3_start 1 := ⟨tb5 (i := 214) (by decide +kernel) rfl, tb1 (i := 15) (by decide +kernel) rfl, by decide, by decide +kernel, by decide +kernel, by decide +kernel⟩
theorem vs_X3_start : Cond.instanceMethod mi_X3_start.1 ∈ TB ∧ Cond.selects RX3 mi_X3_start.1 mi_X3_start.1 ∈ TB := ⟨tb5 (i := 213) (by decide +kernel) rfl, sel7 (i := 5) (by decide +kernel)⟩
abbrev cJ6_bitCount_0f7a4 : ByteArray := prog_16_method_49_code
def yJ6_bitCount_0f7a4 : MethodName := ⟨RJ6, "bitCount", "(I)I"⟩
abbrev mi_J6_bitCount_0f7a4 : Mi := (yJ6_bitCount_0f7a4, cJ6_bitCount_0f7a4, 1, (some .int))
def iJ6_bitCount_0f7a4_0 : List (Nat × Instr × Nat) := [(0, .iload_n 0, 1), (1, .iload_n 0, 1), (2, .iconst 1, 1), (3, .iushr, 1), (4, .ldc_w 265, 3), (7, .iand, 1), (8, .isub, 1), (9, .istore_n 0, 1), (10, .iload_n 0, 1), (11, .ldc_w 266, 3), (14, .iand, 1), (15, .iload_n 0, 1), (16, .iconst 2, 1), (17, .iushr, 1), (18, .ldc_w 266, 3), (21, .iand, 1), (22, .iadd, 1), (23, .istore_n 0, 1), (24, .iload_n 0, 1), (25, .iload_n 0, 1), (26, .iconst 4, 1), (27, .iushr, 1), (28, .iadd, 1), (29, .ldc_w 267, 3), (32, .iand, 1), (33, .istore_n 0, 1), (34, .iload_n 0, 1), (35, .iload_n 0, 1), (36, .bipush 8, 2), (38, .iushr, 1), (39, .iadd, 1), (40, .istore_n 0, 1), (41, .iload_n 0, 1), (42, .iload_n 0, 1), (43, .bipush 16, 2), (45, .iushr, 1), (46, .iadd, 1), (47, .istore_n 0, 1), (48, .iload_n 0, 1), (49, .bipush 63, 2), (51, .iand, 1), (52, .ireturn, 1)]
theorem kJ6_bitCount_0f7a4_0 : ckI cJ6_bitCount_0f7a4 iJ6_bitCount_0f7a4_0 = true := by decide +kernel
theorem my_J6_bitCount_0f7a4 : MY mi_J6_bitCount_0f7a4 1 := ⟨tb4 (i := 225) (by decide +kernel) rfl, tb1 (i := 21) (by decide +kernel) rfl, by decide, by decide +kernel, by decide +kernel, by decide +kernel⟩
theorem st_J6_bitCount_0f7a4 : Cond.static mi_J6_bitCount_0f7a4.1 ∈ TB := tb4 (i := 224) (by decide +kernel) rfl
abbrev cX3_nextFacts : ByteArray := prog_5_method_4_code
def yX3_nextFacts : MethodName := ⟨RX3, "nextFacts", "()Z"⟩
abbrev mi_X3_nextFacts : Mi := (yX3_nextFacts, cX3_nextFacts, 2, (some .boolean))
def iX3_nextFacts_0 : List (Nat × Instr × Nat) := [(0, .iconst 0, 1), (1, .istore_n 1, 1), (2, .iload_n 1, 1), (3, .sipush 2304, 3), (6, .if_icmp .ge 76, 3), (9, .aload_n 0, 1), (10, .aload_n 0, 1), (11, .getfield 18, 3), (14, .aload_n 0, 1), (15, .getfield 9, 3), (18, .isub, 1), (19, .aload_n 0, 1), (20, .getfield 9, 3), (23, .iand, 1), (24, .putfield 18, 3), (27, .aload_n 0, 1), (28, .getfield 18, 3), (31, .ifCond .ne 13, 3), (34, .aload_n 0, 1), (35, .dup, 1), (36, .getfield 15, 3), (39, .iconst 1, 1), (40, .iadd, 1), (41, .putfield 15, 3), (44, .aload_n 0, 1), (45, .getfield 15, 3), (48, .aload_n 0, 1), (49, .getfield 9, 3), (52, .invokestatic 32, 3), (55, .if_icmp .le 5, 3), (58, .iconst 0, 1), (59, .ireturn, 1), (60, .aload_n 0, 1), (61, .getfield 18, 3), (64, .invokestatic 32, 3), (67, .aload_n 0, 1), (68, .getfield 15, 3), (71, .if_icmp .ne 5, 3), (74, .iconst 1, 1), (75, .ireturn, 1), (76, .iinc 1 1, 3), (79, .goto (-77), 3), (82, .iconst 0, 1), (83, .ireturn, 1)]
theorem kX3_nextFacts_0 : ckI cX3_nextFacts iX3_nextFacts_0 = true := by decide +kernel
theorem my_X3_nextFacts : MY mi_X3_nextFacts 0 := ⟨tb5 (i := 222) (by decide +kernel) rfl, tb1 (i := 15) (by decide +kernel) rfl, by decide, by decide +kernel, by decide +kernel, by decide +kernel⟩
theorem vs_X3_nextFacts : Cond.instanceMethod mi_X3_nextFacts.1 ∈ TB ∧ Cond.selects RX3 mi_X3_nextFacts.1 mi_X3_nextFacts.1 ∈ TB := ⟨tb5 (i := 221) (by decide +kernel) rfl, sel7 (i := 7) (by decide +kernel)⟩
abbrev cX3_more : ByteArray := prog_5_method_3_code
def yX3_more : MethodName := ⟨RX3, "more", "()Z"⟩
abbrev mi_X3_more : Mi := (yX3_more, cX3_more, 1, (some .boolean))
def iX3_more_0 : List (Nat × Instr × Nat) := [(0, .aload_n 0, 1), (1, .getfield 24, 3), (4, .ifCond .ne 10, 3), (7, .aload_n 0, 1), (8, .iconst 1, 1), (9, .putfield 24, 3), (12, .iconst 1, 1), (13, .ireturn, 1), (14, .aload_n 0, 1), (15, .getfield 21, 3), (18, .aload_n 0, 1), (19, .getfield 18, 3), (22, .if_icmp .eq 23, 3), (25, .aload_n 0, 1), (26, .aload_n 0, 1), (27, .getfield 21, 3), (30, .aload_n 0, 1), (31, .getfield 18, 3), (34, .isub, 1), (35, .aload_n 0, 1), (36, .getfield 18, 3), (39, .iand, 1), (40, .putfield 21, 3), (43, .iconst 1, 1), (44, .ireturn, 1), (45, .aload_n 0, 1), (46, .iconst 0, 1), (47, .putfield 21, 3), (50, .aload_n 0, 1), (51, .invokevirtual 28, 3), (54, .ireturn, 1)]
theorem kX3_more_0 : ckI cX3_more iX3_more_0 = true := by decide +kernel
theorem my_X3_more : MY mi_X3_more 0 := ⟨tb5 (i := 218) (by decide +kernel) rfl, tb1 (i := 15) (by decide +kernel) rfl, by decide, by decide +kernel, by decide +kernel, by decide +kernel⟩
theorem vs_X3_more : Cond.instanceMethod mi_X3_more.1 ∈ TB ∧ Cond.selects RX3 mi_X3_more.1 mi_X3_more.1 ∈ TB := ⟨tb5 (i := 217) (by decide +kernel) rfl, sel7 (i := 6) (by decide +kernel)⟩
abbrev cX5_known : ByteArray := prog_7_method_4_code
def yX5_known : MethodName := ⟨RX5, "known", "()I"⟩
abbrev mi_X5_known : Mi := (yX5_known, cX5_known, 1, (some .int))
def iX5_known_0 : List (Nat × Instr × Nat) := [(0, .aload_n 0, 1), (1, .getfield 44, 3), (4, .aload_n 0, 1), (5, .getfield 53, 3), (8, .ior, 1), (9, .ireturn, 1)]
theorem kX5_known_0 : ckI cX5_known iX5_known_0 = true := by decide +kernel
theorem my_X5_known : MY mi_X5_known 0 := ⟨tb4 (i := 197) (by decide +kernel) rfl, tb1 (i := 11) (by decide +kernel) rfl, by decide, by decide +kernel, by decide +kernel, by decide +kernel⟩
theorem vs_X5_known : Cond.instanceMethod mi_X5_known.1 ∈ TB ∧ Cond.selects RX5 mi_X5_known.1 mi_X5_known.1 ∈ TB := ⟨tb4 (i := 196) (by decide +kernel) rfl, sel4 (i := 14) (by decide +kernel)⟩
abbrev cX5_answered : ByteArray := prog_7_method_5_code
def yX5_answered : MethodName := ⟨RX5, "answered", "()I"⟩
abbrev mi_X5_answered : Mi := (yX5_answered, cX5_answered, 1, (some .int))
def iX5_answered_0 : List (Nat × Instr × Nat) := [(0, .aload_n 0, 1), (1, .getfield 44, 3), (4, .aload_n 0, 1), (5, .getfield 47, 3), (8, .ior, 1), (9, .aload_n 0, 1), (10, .getfield 50, 3), (13, .ior, 1), (14, .aload_n 0, 1), (15, .getfield 53, 3), (18, .ior, 1), (19, .invokestatic 63, 3), (22, .ireturn, 1)]
theorem kX5_answered_0 : ckI cX5_answered iX5_answered_0 = true := by decide +kernel
theorem my_X5_answered : MY mi_X5_answered 0 := ⟨tb5 (i := 94) (by decide +kernel) rfl, tb1 (i := 11) (by decide +kernel) rfl, by decide, by decide +kernel, by decide +kernel, by decide +kernel⟩
theorem vs_X5_answered : Cond.instanceMethod mi_X5_answered.1 ∈ TB ∧ Cond.selects RX5 mi_X5_answered.1 mi_X5_answered.1 ∈ TB := ⟨tb5 (i := 93) (by decide +kernel) rfl, sel6 (i := 7) (by decide +kernel)⟩
abbrev cX5_howIs : ByteArray := prog_7_method_6_code
def yX5_howIs : MethodName := ⟨RX5, "howIs", "(I)I"⟩
abbrev mi_X5_howIs : Mi := (yX5_howIs, cX5_howIs, 2, (some .int))
def iX5_howIs_0 : List (Nat × Instr × Nat) := [(0, .aload_n 0, 1), (1, .getfield 44, 3), (4, .iload_n 1, 1), (5, .invokestatic 69, 3), (8, .ifCond .eq 5, 3), (11, .iconst 1, 1), (12, .ireturn, 1), (13, .aload_n 0, 1), (14, .getfield 47, 3), (17, .iload_n 1, 1), (18, .invokestatic 69, 3), (21, .ifCond .eq 5, 3), (24, .iconst 2, 1), (25, .ireturn, 1), (26, .aload_n 0, 1), (27, .getfield 50, 3), (30, .iload_n 1, 1), (31, .invokestatic 69, 3), (34, .ifCond .eq 5, 3), (37, .iconst 3, 1), (38, .ireturn, 1), (39, .aload_n 0, 1), (40, .getfield 53, 3), (43, .iload_n 1, 1), (44, .invokestatic 69, 3), (47, .ifCond .eq 7, 3), (50, .iconst 4, 1), (51, .goto 4, 3), (54, .iconst 0, 1), (55, .ireturn, 1)]
theorem kX5_howIs_0 : ckI cX5_howIs iX5_howIs_0 = true := by decide +kernel
theorem my_X5_howIs : MY mi_X5_howIs 1 := ⟨tb4 (i := 192) (by decide +kernel) rfl, tb1 (i := 11) (by decide +kernel) rfl, by decide, by decide +kernel, by decide +kernel, by decide +kernel⟩
theorem vs_X5_howIs : Cond.instanceMethod mi_X5_howIs.1 ∈ TB ∧ Cond.selects RX5 mi_X5_howIs.1 mi_X5_howIs.1 ∈ TB := ⟨tb4 (i := 191) (by decide +kernel) rfl, sel4 (i := 13) (by decide +kernel)⟩
abbrev cX5_become : ByteArray := prog_7_method_7_code
def yX5_become : MethodName := ⟨RX5, "become", "(IIZ)V"⟩
abbrev mi_X5_become : Mi := (yX5_become, cX5_become, 6, none)
def iX5_become_0 : List (Nat × Instr × Nat) := [(0, .iconst 1, 1), (1, .iload_n 1, 1), (2, .ishl, 1), (3, .istore 4, 2), (5, .aload_n 0, 1), (6, .iload_n 2, 1), (7, .iconst 1, 1), (8, .if_icmp .ne 13, 3), (11, .aload_n 0, 1), (12, .getfield 44, 3), (15, .iload 4, 2), (17, .ior, 1), (18, .goto 12, 3), (21, .aload_n 0, 1), (22, .getfield 44, 3), (25, .iload 4, 2), (27, .iconst (-1), 1), (28, .ixor, 1), (29, .iand, 1), (30, .putfield 44, 3), (33, .aload_n 0, 1), (34, .iload_n 2, 1), (35, .iconst 2, 1), (36, .if_icmp .ne 13, 3), (39, .aload_n 0, 1), (40, .getfield 47, 3), (43, .iload 4, 2), (45, .ior, 1), (46, .goto 12, 3), (49, .aload_n 0, 1), (50, .getfield 47, 3), (53, .iload 4, 2), (55, .iconst (-1), 1), (56, .ixor, 1), (57, .iand, 1), (58, .putfield 47, 3), (61, .aload_n 0, 1), (62, .iload_n 2, 1), (63, .iconst 3, 1), (64, .if_icmp .ne 13, 3), (67, .aload_n 0, 1), (68, .getfield 50, 3), (71, .iload 4, 2), (73, .ior, 1), (74, .goto 12, 3), (77, .aload_n 0, 1), (78, .getfield 50, 3), (81, .iload 4, 2), (83, .iconst (-1), 1), (84, .ixor, 1), (85, .iand, 1), (86, .putfield 50, 3), (89, .aload_n 0, 1), (90, .iload_n 2, 1), (91, .iconst 4, 1), (92, .if_icmp .ne 13, 3), (95, .aload_n 0, 1), (96, .getfield 53, 3), (99, .iload 4, 2), (101, .ior, 1), (102, .goto 12, 3), (105, .aload_n 0, 1), (106, .getfield 53, 3), (109, .iload 4, 2)]
theorem kX5_become_0 : ckI cX5_become iX5_become_0 = true := by decide +kernel
def iX5_become_1 : List (Nat × Instr × Nat) := [(111, .iconst (-1), 1), (112, .ixor, 1), (113, .iand, 1), (114, .putfield 53, 3), (117, .iload_n 3, 1), (118, .ifCond .eq 17, 3), (121, .iload_n 2, 1), (122, .iconst 1, 1), (123, .if_icmp .eq 8, 3), (126, .iload_n 2, 1), (127, .iconst 4, 1), (128, .if_icmp .ne 7, 3), (131, .iconst 1, 1), (132, .goto 4, 3), (135, .iconst 0, 1), (136, .istore 5, 2), (138, .aload_n 0, 1), (139, .iload 5, 2), (141, .ifCond .eq 13, 3), (144, .aload_n 0, 1), (145, .getfield 56, 3), (148, .iload 4, 2), (150, .ior, 1), (151, .goto 12, 3), (154, .aload_n 0, 1), (155, .getfield 56, 3), (158, .iload 4, 2), (160, .iconst (-1), 1), (161, .ixor, 1), (162, .iand, 1), (163, .putfield 56, 3), (166, .return_, 1)]
theorem kX5_become_1 : ckI cX5_become iX5_become_1 = true := by decide +kernel
theorem my_X5_become : MY mi_X5_become 3 := ⟨tb5 (i := 90) (by decide +kernel) rfl, tb1 (i := 11) (by decide +kernel) rfl, by decide, by decide +kernel, by decide +kernel, by decide +kernel⟩
theorem vs_X5_become : Cond.instanceMethod mi_X5_become.1 ∈ TB ∧ Cond.selects RX5 mi_X5_become.1 mi_X5_become.1 ∈ TB := ⟨tb5 (i := 89) (by decide +kernel) rfl, sel6 (i := 6) (by decide +kernel)⟩
abbrev cX5_sayers : ByteArray := prog_7_method_8_code
def yX5_sayers : MethodName := ⟨RX5, "sayers", "(I)I"⟩
abbrev mi_X5_sayers : Mi := (yX5_sayers, cX5_sayers, 4, (some .int))
def iX5_sayers_0 : List (Nat × Instr × Nat) := [(0, .iconst 0, 1), (1, .istore_n 2, 1), (2, .iconst 0, 1), (3, .istore_n 3, 1), (4, .iload_n 3, 1), (5, .aload_n 0, 1), (6, .getfield 38, 3), (9, .if_icmp .ge 30, 3), (12, .aload_n 0, 1), (13, .getfield 24, 3), (16, .iload_n 3, 1), (17, .invokestatic 73, 3), (20, .iload_n 1, 1), (21, .invokestatic 69, 3), (24, .ifCond .eq 9, 3), (27, .iload_n 2, 1), (28, .iconst 1, 1), (29, .iload_n 3, 1), (30, .ishl, 1), (31, .ior, 1), (32, .istore_n 2, 1), (33, .iinc 3 1, 3), (36, .goto (-32), 3), (39, .iload_n 2, 1), (40, .ireturn, 1)]
theorem kX5_sayers_0 : ckI cX5_sayers iX5_sayers_0 = true := by decide +kernel
theorem my_X5_sayers : MY mi_X5_sayers 1 := ⟨tb4 (i := 202) (by decide +kernel) rfl, tb1 (i := 11) (by decide +kernel) rfl, by decide, by decide +kernel, by decide +kernel, by decide +kernel⟩
theorem vs_X5_sayers : Cond.instanceMethod mi_X5_sayers.1 ∈ TB ∧ Cond.selects RX5 mi_X5_sayers.1 mi_X5_sayers.1 ∈ TB := ⟨tb4 (i := 201) (by decide +kernel) rfl, sel4 (i := 15) (by decide +kernel)⟩
abbrev cX5_firstSayer : ByteArray := prog_7_method_9_code
def yX5_firstSayer : MethodName := ⟨RX5, "firstSayer", "(I)I"⟩
abbrev mi_X5_firstSayer : Mi := (yX5_firstSayer, cX5_firstSayer, 3, (some .int))
def iX5_firstSayer_0 : List (Nat × Instr × Nat) := [(0, .iconst 0, 1), (1, .istore_n 2, 1), (2, .iload_n 2, 1), (3, .aload_n 0, 1), (4, .getfield 38, 3), (7, .if_icmp .ge 37, 3), (10, .aload_n 0, 1), (11, .getfield 24, 3), (14, .iload_n 2, 1), (15, .invokestatic 73, 3), (18, .iload_n 1, 1), (19, .invokestatic 69, 3), (22, .ifCond .eq 16, 3), (25, .aload_n 0, 1), (26, .getfield 41, 3), (29, .iload_n 2, 1), (30, .invokestatic 69, 3), (33, .ifCond .ne 5, 3), (36, .iload_n 2, 1), (37, .ireturn, 1), (38, .iinc 2 1, 3), (41, .goto (-39), 3), (44, .iconst (-1), 1), (45, .ireturn, 1)]
theorem kX5_firstSayer_0 : ckI cX5_firstSayer iX5_firstSayer_0 = true := by decide +kernel
theorem my_X5_firstSayer : MY mi_X5_firstSayer 1 := ⟨tb5 (i := 111) (by decide +kernel) rfl, tb1 (i := 11) (by decide +kernel) rfl, by decide, by decide +kernel, by decide +kernel, by decide +kernel⟩
theorem vs_X5_firstSayer : Cond.instanceMethod mi_X5_firstSayer.1 ∈ TB ∧ Cond.selects RX5 mi_X5_firstSayer.1 mi_X5_firstSayer.1 ∈ TB := ⟨tb5 (i := 110) (by decide +kernel) rfl, sel6 (i := 9) (by decide +kernel)⟩
abbrev cX6_clear : ByteArray := prog_8_method_2_code
def yX6_clear : MethodName := ⟨RX6, "clear", "()V"⟩
abbrev mi_X6_clear : Mi := (yX6_clear, cX6_clear, 1, none)
def iX6_clear_0 : List (Nat × Instr × Nat) := [(0, .aload_n 0, 1), (1, .iconst 0, 1), (2, .putfield 28, 3), (5, .aload_n 0, 1), (6, .getfield 25, 3), (9, .invokestatic 32, 3), (12, .return_, 1)]
theorem kX6_clear_0 : ckI cX6_clear iX6_clear_0 = true := by decide +kernel
theorem my_X6_clear : MY mi_X6_clear 0 := ⟨tb6 (i := 69) (by decide +kernel) rfl, tb1 (i := 16) (by decide +kernel) rfl, by decide, by decide +kernel, by decide +kernel, by decide +kernel⟩
theorem vs_X6_clear : Cond.instanceMethod mi_X6_clear.1 ∈ TB ∧ Cond.selects RX6 mi_X6_clear.1 mi_X6_clear.1 ∈ TB := ⟨tb6 (i := 68) (by decide +kernel) rfl, sel8 (i := 4) (by decide +kernel)⟩
abbrev cX6_enter : ByteArray := prog_8_method_3_code
def yX6_enter : MethodName := ⟨RX6, "enter", "(III)V"⟩
abbrev mi_X6_enter : Mi := (yX6_enter, cX6_enter, 5, none)
def iX6_enter_0 : List (Nat × Instr × Nat) := [(0, .aload_n 0, 1), (1, .getfield 25, 3), (4, .iload_n 1, 1), (5, .invokestatic 36, 3), (8, .iconst 1, 1), (9, .isub, 1), (10, .istore 4, 2), (12, .iload 4, 2), (14, .ifCond .ge 71, 3), (17, .aload_n 0, 1), (18, .getfield 28, 3), (21, .istore 4, 2), (23, .aload_n 0, 1), (24, .dup, 1), (25, .getfield 28, 3), (28, .iconst 1, 1), (29, .iadd, 1), (30, .putfield 28, 3), (33, .aload_n 0, 1), (34, .getfield 25, 3), (37, .iload_n 1, 1), (38, .aload_n 0, 1), (39, .getfield 28, 3), (42, .invokestatic 40, 3), (45, .aload_n 0, 1), (46, .getfield 9, 3), (49, .iload 4, 2), (51, .iload_n 1, 1), (52, .invokestatic 40, 3), (55, .aload_n 0, 1), (56, .getfield 18, 3), (59, .iload 4, 2), (61, .iload_n 2, 1), (62, .invokestatic 40, 3), (65, .aload_n 0, 1), (66, .getfield 15, 3), (69, .iload 4, 2), (71, .iconst 0, 1), (72, .invokestatic 40, 3), (75, .aload_n 0, 1), (76, .getfield 21, 3), (79, .iload 4, 2), (81, .lconst 0, 1), (82, .invokestatic 44, 3), (85, .aload_n 0, 1), (86, .getfield 15, 3), (89, .iload 4, 2), (91, .aload_n 0, 1), (92, .getfield 15, 3), (95, .iload 4, 2), (97, .invokestatic 36, 3), (100, .iconst 1, 1), (101, .iadd, 1), (102, .invokestatic 40, 3), (105, .aload_n 0, 1), (106, .getfield 21, 3), (109, .iload 4, 2), (111, .aload_n 0, 1), (112, .getfield 21, 3), (115, .iload 4, 2), (117, .invokestatic 48, 3), (120, .iload_n 3, 1), (121, .i2l, 1), (122, .ladd, 1)]
theorem kX6_enter_0 : ckI cX6_enter iX6_enter_0 = true := by decide +kernel
def iX6_enter_1 : List (Nat × Instr × Nat) := [(123, .invokestatic 44, 3), (126, .return_, 1)]
theorem kX6_enter_1 : ckI cX6_enter iX6_enter_1 = true := by decide +kernel
theorem my_X6_enter : MY mi_X6_enter 3 := ⟨tb6 (i := 78) (by decide +kernel) rfl, tb1 (i := 16) (by decide +kernel) rfl, by decide, by decide +kernel, by decide +kernel, by decide +kernel⟩
theorem vs_X6_enter : Cond.instanceMethod mi_X6_enter.1 ∈ TB ∧ Cond.selects RX6 mi_X6_enter.1 mi_X6_enter.1 ∈ TB := ⟨tb6 (i := 77) (by decide +kernel) rfl, sel8 (i := 6) (by decide +kernel)⟩
abbrev cX7_take : ByteArray := prog_9_method_2_code
def yX7_take : MethodName := ⟨RX7, "take", "(I)Z"⟩
abbrev mi_X7_take : Mi := (yX7_take, cX7_take, 3, (some .boolean))
def iX7_take_0 : List (Nat × Instr × Nat) := [(0, .aload_n 0, 1), (1, .getfield 15, 3), (4, .iconst 4, 1), (5, .iadd, 1), (6, .sipush 480, 3), (9, .if_icmp .le 5, 3), (12, .iconst 0, 1), (13, .ireturn, 1), (14, .iconst 0, 1), (15, .istore_n 2, 1), (16, .iload_n 2, 1), (17, .iconst 4, 1), (18, .if_icmp .ge 35, 3), (21, .aload_n 0, 1), (22, .getfield 9, 3), (25, .aload_n 0, 1), (26, .getfield 15, 3), (29, .iload_n 2, 1), (30, .iadd, 1), (31, .iload_n 1, 1), (32, .bipush 24, 2), (34, .bipush 8, 2), (36, .iload_n 2, 1), (37, .imul, 1), (38, .isub, 1), (39, .iushr, 1), (40, .sipush 255, 3), (43, .iand, 1), (44, .invokestatic 19, 3), (47, .iinc 2 1, 3), (50, .goto (-34), 3), (53, .aload_n 0, 1), (54, .dup, 1), (55, .getfield 15, 3), (58, .iconst 4, 1), (59, .iadd, 1), (60, .putfield 15, 3), (63, .iconst 1, 1), (64, .ireturn, 1)]
theorem kX7_take_0 : ckI cX7_take iX7_take_0 = true := by decide +kernel
theorem my_X7_take : MY mi_X7_take 1 := ⟨tb3 (i := 161) (by decide +kernel) rfl, tb1 (i := 2) (by decide +kernel) rfl, by decide, by decide +kernel, by decide +kernel, by decide +kernel⟩
theorem vs_X7_take : Cond.instanceMethod mi_X7_take.1 ∈ TB ∧ Cond.selects RX7 mi_X7_take.1 mi_X7_take.1 ∈ TB := ⟨tb3 (i := 160) (by decide +kernel) rfl, sel2 (i := 2) (by decide +kernel)⟩
abbrev cX7_cut : ByteArray := prog_9_method_3_code
def yX7_cut : MethodName := ⟨RX7, "cut", "(I)Z"⟩
abbrev mi_X7_cut : Mi := (yX7_cut, cX7_cut, 2, (some .boolean))
def iX7_cut_0 : List (Nat × Instr × Nat) := [(0, .iload_n 1, 1), (1, .ifCond .lt 11, 3), (4, .iload_n 1, 1), (5, .aload_n 0, 1), (6, .getfield 15, 3), (9, .if_icmp .le 5, 3), (12, .iconst 0, 1), (13, .ireturn, 1), (14, .aload_n 0, 1), (15, .iload_n 1, 1), (16, .putfield 15, 3), (19, .iconst 1, 1), (20, .ireturn, 1)]
theorem kX7_cut_0 : ckI cX7_cut iX7_cut_0 = true := by decide +kernel
theorem my_X7_cut : MY mi_X7_cut 1 := ⟨tb3 (i := 170) (by decide +kernel) rfl, tb1 (i := 2) (by decide +kernel) rfl, by decide, by decide +kernel, by decide +kernel, by decide +kernel⟩
theorem vs_X7_cut : Cond.instanceMethod mi_X7_cut.1 ∈ TB ∧ Cond.selects RX7 mi_X7_cut.1 mi_X7_cut.1 ∈ TB := ⟨tb3 (i := 169) (by decide +kernel) rfl, sel2 (i := 3) (by decide +kernel)⟩
abbrev cX7_read : ByteArray := prog_9_method_4_code
def yX7_read : MethodName := ⟨RX7, "read", "(I)I"⟩
abbrev mi_X7_read : Mi := (yX7_read, cX7_read, 2, (some .int))
def iX7_read_0 : List (Nat × Instr × Nat) := [(0, .iload_n 1, 1), (1, .aload_n 0, 1), (2, .getfield 15, 3), (5, .if_icmp .ge 14, 3), (8, .aload_n 0, 1), (9, .getfield 9, 3), (12, .iload_n 1, 1), (13, .invokestatic 23, 3), (16, .goto 4, 3), (19, .iconst 0, 1), (20, .ireturn, 1)]
theorem kX7_read_0 : ckI cX7_read iX7_read_0 = true := by decide +kernel
theorem my_X7_read : MY mi_X7_read 1 := ⟨tb3 (i := 182) (by decide +kernel) rfl, tb1 (i := 2) (by decide +kernel) rfl, by decide, by decide +kernel, by decide +kernel, by decide +kernel⟩
theorem vs_X7_read : Cond.instanceMethod mi_X7_read.1 ∈ TB ∧ Cond.selects RX7 mi_X7_read.1 mi_X7_read.1 ∈ TB := ⟨tb3 (i := 181) (by decide +kernel) rfl, sel2 (i := 5) (by decide +kernel)⟩
abbrev cX9_node : ByteArray := prog_11_method_2_code
def yX9_node : MethodName := ⟨RX9, "node", "(II)I"⟩
abbrev mi_X9_node : Mi := (yX9_node, cX9_node, 3, (some .int))
def iX9_node_0 : List (Nat × Instr × Nat) := [(0, .aload_n 0, 1), (1, .getfield 9, 3), (4, .iload_n 1, 1), (5, .invokestatic 24, 3), (8, .aload_n 0, 1), (9, .getfield 9, 3), (12, .iload_n 2, 1), (13, .invokestatic 24, 3), (16, .iadd, 1), (17, .ireturn, 1)]
theorem kX9_node_0 : ckI cX9_node iX9_node_0 = true := by decide +kernel
theorem my_X9_node : MY mi_X9_node 2 := ⟨tb5 (i := 206) (by decide +kernel) rfl, tb1 (i := 14) (by decide +kernel) rfl, by decide, by decide +kernel, by decide +kernel, by decide +kernel⟩
theorem vs_X9_node : Cond.instanceMethod mi_X9_node.1 ∈ TB ∧ Cond.selects RX9 mi_X9_node.1 mi_X9_node.1 ∈ TB := ⟨tb5 (i := 205) (by decide +kernel) rfl, sel7 (i := 3) (by decide +kernel)⟩
abbrev cX9_markOf : ByteArray := prog_11_method_3_code
def yX9_markOf : MethodName := ⟨RX9, "markOf", "(II)I"⟩
abbrev mi_X9_markOf : Mi := (yX9_markOf, cX9_markOf, 3, (some .int))
def iX9_markOf_0 : List (Nat × Instr × Nat) := [(0, .aload_n 0, 1), (1, .getfield 18, 3), (4, .aload_n 0, 1), (5, .iload_n 1, 1), (6, .iload_n 2, 1), (7, .invokevirtual 32, 3), (10, .invokestatic 24, 3), (13, .ireturn, 1)]
theorem kX9_markOf_0 : ckI cX9_markOf iX9_markOf_0 = true := by decide +kernel
theorem my_X9_markOf : MY mi_X9_markOf 2 := ⟨tb5 (i := 227) (by decide +kernel) rfl, tb1 (i := 14) (by decide +kernel) rfl, by decide, by decide +kernel, by decide +kernel, by decide +kernel⟩
theorem vs_X9_markOf : Cond.instanceMethod mi_X9_markOf.1 ∈ TB ∧ Cond.selects RX9 mi_X9_markOf.1 mi_X9_markOf.1 ∈ TB := ⟨tb5 (i := 226) (by decide +kernel) rfl, sel7 (i := 8) (by decide +kernel)⟩
abbrev cX9_value : ByteArray := prog_11_method_4_code
def yX9_value : MethodName := ⟨RX9, "value", "()I"⟩
abbrev mi_X9_value : Mi := (yX9_value, cX9_value, 1, (some .int))
def iX9_value_0 : List (Nat × Instr × Nat) := [(0, .aload_n 0, 1), (1, .getfield 21, 3), (4, .iconst 0, 1), (5, .invokestatic 24, 3), (8, .ireturn, 1)]
theorem kX9_value_0 : ckI cX9_value iX9_value_0 = true := by decide +kernel
theorem my_X9_value : MY mi_X9_value 0 := ⟨tb6 (i := 37) (by decide +kernel) rfl, tb1 (i := 14) (by decide +kernel) rfl, by decide, by decide +kernel, by decide +kernel, by decide +kernel⟩
theorem vs_X9_value : Cond.instanceMethod mi_X9_value.1 ∈ TB ∧ Cond.selects RX9 mi_X9_value.1 mi_X9_value.1 ∈ TB := ⟨tb6 (i := 36) (by decide +kernel) rfl, sel7 (i := 15) (by decide +kernel)⟩
abbrev cX9_setLeaf : ByteArray := prog_11_method_5_code
def yX9_setLeaf : MethodName := ⟨RX9, "setLeaf", "(II)V"⟩
abbrev mi_X9_setLeaf : Mi := (yX9_setLeaf, cX9_setLeaf, 3, none)
def iX9_setLeaf_0 : List (Nat × Instr × Nat) := [(0, .aload_n 0, 1), (1, .getfield 15, 3), (4, .iload_n 1, 1), (5, .iload_n 2, 1), (6, .invokestatic 28, 3), (9, .return_, 1)]
theorem kX9_setLeaf_0 : ckI cX9_setLeaf iX9_setLeaf_0 = true := by decide +kernel
theorem my_X9_setLeaf : MY mi_X9_setLeaf 2 := ⟨tb5 (i := 198) (by decide +kernel) rfl, tb1 (i := 14) (by decide +kernel) rfl, by decide, by decide +kernel, by decide +kernel, by decide +kernel⟩
theorem vs_X9_setLeaf : Cond.instanceMethod mi_X9_setLeaf.1 ∈ TB ∧ Cond.selects RX9 mi_X9_setLeaf.1 mi_X9_setLeaf.1 ∈ TB := ⟨tb5 (i := 197) (by decide +kernel) rfl, sel7 (i := 1) (by decide +kernel)⟩
abbrev cX9_markFrom : ByteArray := prog_11_method_7_code
def yX9_markFrom : MethodName := ⟨RX9, "markFrom", "(II)I"⟩
abbrev mi_X9_markFrom : Mi := (yX9_markFrom, cX9_markFrom, 4, (some .int))
def iX9_markFrom_0 : List (Nat × Instr × Nat) := [(0, .aload_n 0, 1), (1, .getfield 9, 3), (4, .iload_n 2, 1), (5, .iload_n 2, 1), (6, .ineg, 1), (7, .iand, 1), (8, .invokestatic 24, 3), (11, .istore_n 3, 1), (12, .aload_n 0, 1), (13, .getfield 18, 3), (16, .iload_n 1, 1), (17, .iload_n 3, 1), (18, .iadd, 1), (19, .invokestatic 24, 3), (22, .aload_n 0, 1), (23, .getfield 18, 3), (26, .iload_n 1, 1), (27, .iconst 2, 1), (28, .iload_n 3, 1), (29, .imul, 1), (30, .iadd, 1), (31, .invokestatic 24, 3), (34, .ior, 1), (35, .ireturn, 1)]
theorem kX9_markFrom_0 : ckI cX9_markFrom iX9_markFrom_0 = true := by decide +kernel
theorem my_X9_markFrom : MY mi_X9_markFrom 2 := ⟨tb5 (i := 210) (by decide +kernel) rfl, tb1 (i := 14) (by decide +kernel) rfl, by decide, by decide +kernel, by decide +kernel, by decide +kernel⟩
theorem vs_X9_markFrom : Cond.instanceMethod mi_X9_markFrom.1 ∈ TB ∧ Cond.selects RX9 mi_X9_markFrom.1 mi_X9_markFrom.1 ∈ TB := ⟨tb5 (i := 209) (by decide +kernel) rfl, sel7 (i := 4) (by decide +kernel)⟩
abbrev cX9_grow : ByteArray := prog_11_method_6_code
def yX9_grow : MethodName := ⟨RX9, "grow", "(II)V"⟩
abbrev mi_X9_grow : Mi := (yX9_grow, cX9_grow, 7, none)
def iX9_grow_0 : List (Nat × Instr × Nat) := [(0, .aload_n 0, 1), (1, .iload_n 1, 1), (2, .putfield 36, 3), (5, .aload_n 0, 1), (6, .getfield 36, 3), (9, .istore_n 3, 1), (10, .iload_n 3, 1), (11, .ifCond .lt 98, 3), (14, .iload_n 3, 1), (15, .istore 4, 2), (17, .iload 4, 2), (19, .ifCond .lt 84, 3), (22, .iload_n 3, 1), (23, .aload_n 0, 1), (24, .getfield 36, 3), (27, .iconst (-1), 1), (28, .ixor, 1), (29, .iand, 1), (30, .ifCond .ne 73, 3), (33, .iload 4, 2), (35, .iload_n 3, 1), (36, .iconst (-1), 1), (37, .ixor, 1), (38, .iand, 1), (39, .ifCond .ne 58, 3), (42, .aload_n 0, 1), (43, .iload_n 3, 1), (44, .iload 4, 2), (46, .invokevirtual 32, 3), (49, .istore 5, 2), (51, .aload_n 0, 1), (52, .getfield 36, 3), (55, .iload_n 3, 1), (56, .iconst (-1), 1), (57, .ixor, 1), (58, .iand, 1), (59, .istore 6, 2), (61, .aload_n 0, 1), (62, .getfield 18, 3), (65, .iload 5, 2), (67, .iload 6, 2), (69, .ifCond .ne 17, 3), (72, .aload_n 0, 1), (73, .getfield 15, 3), (76, .iload 4, 2), (78, .iload_n 2, 1), (79, .ior, 1), (80, .invokestatic 24, 3), (83, .goto 11, 3), (86, .aload_n 0, 1), (87, .iload 5, 2), (89, .iload 6, 2), (91, .invokevirtual 40, 3), (94, .invokestatic 28, 3), (97, .iinc 4 (-1), 3), (100, .goto (-83), 3), (103, .iinc 3 (-1), 3), (106, .goto (-96), 3), (109, .return_, 1)]
theorem kX9_grow_0 : ckI cX9_grow iX9_grow_0 = true := by decide +kernel
theorem my_X9_grow : MY mi_X9_grow 2 := ⟨tb5 (i := 202) (by decide +kernel) rfl, tb1 (i := 14) (by decide +kernel) rfl, by decide, by decide +kernel, by decide +kernel, by decide +kernel⟩
theorem vs_X9_grow : Cond.instanceMethod mi_X9_grow.1 ∈ TB ∧ Cond.selects RX9 mi_X9_grow.1 mi_X9_grow.1 ∈ TB := ⟨tb5 (i := 201) (by decide +kernel) rfl, sel7 (i := 2) (by decide +kernel)⟩
abbrev cX9_trialsBy : ByteArray := prog_11_method_10_code
def yX9_trialsBy : MethodName := ⟨RX9, "trialsBy", "(II)I"⟩
abbrev mi_X9_trialsBy : Mi := (yX9_trialsBy, cX9_trialsBy, 4, (some .int))
def iX9_trialsBy_0 : List (Nat × Instr × Nat) := [(0, .aload_n 0, 1), (1, .getfield 9, 3), (4, .iconst 1, 1), (5, .iload_n 1, 1), (6, .ishl, 1), (7, .invokestatic 24, 3), (10, .istore_n 3, 1), (11, .iconst 1, 1), (12, .aload_n 0, 1), (13, .getfield 21, 3), (16, .iload_n 2, 1), (17, .iload_n 3, 1), (18, .iadd, 1), (19, .invokestatic 24, 3), (22, .aload_n 0, 1), (23, .getfield 21, 3), (26, .iload_n 2, 1), (27, .iconst 2, 1), (28, .iload_n 3, 1), (29, .imul, 1), (30, .iadd, 1), (31, .invokestatic 24, 3), (34, .invokestatic 58, 3), (37, .iadd, 1), (38, .ireturn, 1)]
theorem kX9_trialsBy_0 : ckI cX9_trialsBy iX9_trialsBy_0 = true := by decide +kernel
theorem my_X9_trialsBy : MY mi_X9_trialsBy 2 := ⟨tb6 (i := 31) (by decide +kernel) rfl, tb1 (i := 14) (by decide +kernel) rfl, by decide, by decide +kernel, by decide +kernel, by decide +kernel⟩
theorem vs_X9_trialsBy : Cond.instanceMethod mi_X9_trialsBy.1 ∈ TB ∧ Cond.selects RX9 mi_X9_trialsBy.1 mi_X9_trialsBy.1 ∈ TB := ⟨tb6 (i := 30) (by decide +kernel) rfl, sel7 (i := 14) (by decide +kernel)⟩
abbrev cX9_fewestTrials : ByteArray := prog_11_method_9_code
def yX9_fewestTrials : MethodName := ⟨RX9, "fewestTrials", "(II)I"⟩
abbrev mi_X9_fewestTrials : Mi := (yX9_fewestTrials, cX9_fewestTrials, 5, (some .int))
def iX9_fewestTrials_0 : List (Nat × Instr × Nat) := [(0, .bipush 8, 2), (2, .istore_n 3, 1), (3, .iconst 0, 1), (4, .istore 4, 2), (6, .iload 4, 2), (8, .bipush 8, 2), (10, .if_icmp .ge 37, 3), (13, .aload_n 0, 1), (14, .getfield 36, 3), (17, .iload_n 1, 1), (18, .iconst (-1), 1), (19, .ixor, 1), (20, .iand, 1), (21, .iload 4, 2), (23, .invokestatic 46, 3), (26, .ifCond .eq 15, 3), (29, .iload_n 3, 1), (30, .aload_n 0, 1), (31, .iload 4, 2), (33, .iload_n 2, 1), (34, .invokevirtual 50, 3), (37, .invokestatic 53, 3), (40, .istore_n 3, 1), (41, .iinc 4 1, 3), (44, .goto (-38), 3), (47, .iload_n 3, 1), (48, .ireturn, 1)]
theorem kX9_fewestTrials_0 : ckI cX9_fewestTrials iX9_fewestTrials_0 = true := by decide +kernel
theorem my_X9_fewestTrials : MY mi_X9_fewestTrials 2 := ⟨tb6 (i := 26) (by decide +kernel) rfl, tb1 (i := 14) (by decide +kernel) rfl, by decide, by decide +kernel, by decide +kernel, by decide +kernel⟩
theorem vs_X9_fewestTrials : Cond.instanceMethod mi_X9_fewestTrials.1 ∈ TB ∧ Cond.selects RX9 mi_X9_fewestTrials.1 mi_X9_fewestTrials.1 ∈ TB := ⟨tb6 (i := 25) (by decide +kernel) rfl, sel7 (i := 13) (by decide +kernel)⟩
abbrev cX9_countTrials : ByteArray := prog_11_method_8_code
def yX9_countTrials : MethodName := ⟨RX9, "countTrials", "()V"⟩
abbrev mi_X9_countTrials : Mi := (yX9_countTrials, cX9_countTrials, 4, none)
def iX9_countTrials_0 : List (Nat × Instr × Nat) := [(0, .aload_n 0, 1), (1, .getfield 36, 3), (4, .istore_n 1, 1), (5, .iload_n 1, 1), (6, .ifCond .lt 77, 3), (9, .iload_n 1, 1), (10, .istore_n 2, 1), (11, .iload_n 2, 1), (12, .ifCond .lt 65, 3), (15, .iload_n 1, 1), (16, .aload_n 0, 1), (17, .getfield 36, 3), (20, .iconst (-1), 1), (21, .ixor, 1), (22, .iand, 1), (23, .ifCond .ne 54, 3), (26, .iload_n 2, 1), (27, .iload_n 1, 1), (28, .iconst (-1), 1), (29, .ixor, 1), (30, .iand, 1), (31, .ifCond .ne 40, 3), (34, .aload_n 0, 1), (35, .iload_n 1, 1), (36, .iload_n 2, 1), (37, .invokevirtual 32, 3), (40, .istore_n 3, 1), (41, .aload_n 0, 1), (42, .getfield 21, 3), (45, .iload_n 3, 1), (46, .aload_n 0, 1), (47, .getfield 18, 3), (50, .iload_n 3, 1), (51, .invokestatic 24, 3), (54, .iconst 3, 1), (55, .if_icmp .ne 12, 3), (58, .aload_n 0, 1), (59, .iload_n 1, 1), (60, .iload_n 3, 1), (61, .invokevirtual 43, 3), (64, .goto 4, 3), (67, .iconst 0, 1), (68, .invokestatic 28, 3), (71, .iinc 2 (-1), 3), (74, .goto (-63), 3), (77, .iinc 1 (-1), 3), (80, .goto (-75), 3), (83, .return_, 1)]
theorem kX9_countTrials_0 : ckI cX9_countTrials iX9_countTrials_0 = true := by decide +kernel
theorem my_X9_countTrials : MY mi_X9_countTrials 0 := ⟨tb6 (i := 22) (by decide +kernel) rfl, tb1 (i := 14) (by decide +kernel) rfl, by decide, by decide +kernel, by decide +kernel, by decide +kernel⟩
theorem vs_X9_countTrials : Cond.instanceMethod mi_X9_countTrials.1 ∈ TB ∧ Cond.selects RX9 mi_X9_countTrials.1 mi_X9_countTrials.1 ∈ TB := ⟨tb6 (i := 21) (by decide +kernel) rfl, sel7 (i := 12) (by decide +kernel)⟩
abbrev cX9_firstTrial : ByteArray := prog_11_method_11_code
def yX9_firstTrial : MethodName := ⟨RX9, "firstTrial", "()I"⟩
abbrev mi_X9_firstTrial : Mi := (yX9_firstTrial, cX9_firstTrial, 2, (some .int))
def iX9_firstTrial_0 : List (Nat × Instr × Nat) := [(0, .iconst 0, 1), (1, .istore_n 1, 1), (2, .iload_n 1, 1), (3, .bipush 8, 2), (5, .if_icmp .ge 35, 3), (8, .aload_n 0, 1), (9, .getfield 36, 3), (12, .iload_n 1, 1), (13, .invokestatic 46, 3), (16, .ifCond .eq 18, 3), (19, .aload_n 0, 1), (20, .iload_n 1, 1), (21, .iconst 0, 1), (22, .invokevirtual 50, 3), (25, .aload_n 0, 1), (26, .invokevirtual 61, 3), (29, .if_icmp .ne 5, 3), (32, .iload_n 1, 1), (33, .ireturn, 1), (34, .iinc 1 1, 3), (37, .goto (-35), 3), (40, .iconst (-1), 1), (41, .ireturn, 1)]
theorem kX9_firstTrial_0 : ckI cX9_firstTrial iX9_firstTrial_0 = true := by decide +kernel
theorem my_X9_firstTrial : MY mi_X9_firstTrial 0 := ⟨tb6 (i := 41) (by decide +kernel) rfl, tb1 (i := 14) (by decide +kernel) rfl, by decide, by decide +kernel, by decide +kernel, by decide +kernel⟩
theorem vs_X9_firstTrial : Cond.instanceMethod mi_X9_firstTrial.1 ∈ TB ∧ Cond.selects RX9 mi_X9_firstTrial.1 mi_X9_firstTrial.1 ∈ TB := ⟨tb6 (i := 40) (by decide +kernel) rfl, sel8 (i := 0) (by decide +kernel)⟩
abbrev cX9_leadsTo : ByteArray := prog_11_method_15_code
def yX9_leadsTo : MethodName := ⟨RX9, "leadsTo", "(II)Z"⟩
abbrev mi_X9_leadsTo : Mi := (yX9_leadsTo, cX9_leadsTo, 3, (some .boolean))
def iX9_leadsTo_0 : List (Nat × Instr × Nat) := [(0, .aload_n 0, 1), (1, .getfield 18, 3), (4, .iload_n 1, 1), (5, .invokestatic 24, 3), (8, .ifCond .eq 19, 3), (11, .aload_n 0, 1), (12, .getfield 21, 3), (15, .iload_n 1, 1), (16, .invokestatic 24, 3), (19, .iload_n 2, 1), (20, .if_icmp .ne 7, 3), (23, .iconst 1, 1), (24, .goto 4, 3), (27, .iconst 0, 1), (28, .ireturn, 1)]
theorem kX9_leadsTo_0 : ckI cX9_leadsTo iX9_leadsTo_0 = true := by decide +kernel
theorem my_X9_leadsTo : MY mi_X9_leadsTo 2 := ⟨tb6 (i := 139) (by decide +kernel) rfl, tb1 (i := 14) (by decide +kernel) rfl, by decide, by decide +kernel, by decide +kernel, by decide +kernel⟩
theorem vs_X9_leadsTo : Cond.instanceMethod mi_X9_leadsTo.1 ∈ TB ∧ Cond.selects RX9 mi_X9_leadsTo.1 mi_X9_leadsTo.1 ∈ TB := ⟨tb6 (i := 138) (by decide +kernel) rfl, sel8 (i := 13) (by decide +kernel)⟩
abbrev cX9_bestTurn : ByteArray := prog_11_method_14_code
def yX9_bestTurn : MethodName := ⟨RX9, "bestTurn", "(III)I"⟩
abbrev mi_X9_bestTurn : Mi := (yX9_bestTurn, cX9_bestTurn, 6, (some .int))
def iX9_bestTurn_0 : List (Nat × Instr × Nat) := [(0, .iconst 0, 1), (1, .istore 4, 2), (3, .iload 4, 2), (5, .bipush 8, 2), (7, .if_icmp .ge 76, 3), (10, .aload_n 0, 1), (11, .getfield 36, 3), (14, .iload_n 1, 1), (15, .iconst (-1), 1), (16, .ixor, 1), (17, .iand, 1), (18, .iload 4, 2), (20, .invokestatic 46, 3), (23, .ifCond .eq 54, 3), (26, .aload_n 0, 1), (27, .getfield 9, 3), (30, .iconst 1, 1), (31, .iload 4, 2), (33, .ishl, 1), (34, .invokestatic 24, 3), (37, .istore 5, 2), (39, .aload_n 0, 1), (40, .iload_n 2, 1), (41, .iload 5, 2), (43, .iadd, 1), (44, .iload_n 3, 1), (45, .invokevirtual 78, 3), (48, .ifCond .eq 8, 3), (51, .iconst 2, 1), (52, .iload 4, 2), (54, .imul, 1), (55, .ireturn, 1), (56, .aload_n 0, 1), (57, .iload_n 2, 1), (58, .iconst 2, 1), (59, .iload 5, 2), (61, .imul, 1), (62, .iadd, 1), (63, .iload_n 3, 1), (64, .invokevirtual 78, 3), (67, .ifCond .eq 10, 3), (70, .iconst 2, 1), (71, .iload 4, 2), (73, .imul, 1), (74, .iconst 1, 1), (75, .iadd, 1), (76, .ireturn, 1), (77, .iinc 4 1, 3), (80, .goto (-77), 3), (83, .iconst (-1), 1), (84, .ireturn, 1)]
theorem kX9_bestTurn_0 : ckI cX9_bestTurn iX9_bestTurn_0 = true := by decide +kernel
theorem my_X9_bestTurn : MY mi_X9_bestTurn 3 := ⟨tb6 (i := 135) (by decide +kernel) rfl, tb1 (i := 14) (by decide +kernel) rfl, by decide, by decide +kernel, by decide +kernel, by decide +kernel⟩
theorem vs_X9_bestTurn : Cond.instanceMethod mi_X9_bestTurn.1 ∈ TB ∧ Cond.selects RX9 mi_X9_bestTurn.1 mi_X9_bestTurn.1 ∈ TB := ⟨tb6 (i := 134) (by decide +kernel) rfl, sel8 (i := 12) (by decide +kernel)⟩
abbrev cX9_winner : ByteArray := prog_11_method_13_code
def yX9_winner : MethodName := ⟨RX9, "winner", "(III)I"⟩
abbrev mi_X9_winner : Mi := (yX9_winner, cX9_winner, 5, (some .int))
def iX9_winner_0 : List (Nat × Instr × Nat) := [(0, .iload_n 1, 1), (1, .aload_n 0, 1), (2, .getfield 36, 3), (5, .if_icmp .ne 21, 3), (8, .aload_n 0, 1), (9, .getfield 18, 3), (12, .iload_n 2, 1), (13, .invokestatic 24, 3), (16, .iconst 1, 1), (17, .if_icmp .ne 7, 3), (20, .iconst 1, 1), (21, .goto 4, 3), (24, .iconst 0, 1), (25, .ireturn, 1), (26, .iconst 1, 1), (27, .iload_n 3, 1), (28, .isub, 1), (29, .istore 4, 2), (31, .aload_n 0, 1), (32, .iload_n 1, 1), (33, .iload_n 2, 1), (34, .iload 4, 2), (36, .invokevirtual 75, 3), (39, .ifCond .lt 8, 3), (42, .iload 4, 2), (44, .goto 7, 3), (47, .iconst 1, 1), (48, .iload 4, 2), (50, .isub, 1), (51, .ireturn, 1)]
theorem kX9_winner_0 : ckI cX9_winner iX9_winner_0 = true := by decide +kernel
theorem my_X9_winner : MY mi_X9_winner 3 := ⟨tb6 (i := 131) (by decide +kernel) rfl, tb1 (i := 14) (by decide +kernel) rfl, by decide, by decide +kernel, by decide +kernel, by decide +kernel⟩
theorem vs_X9_winner : Cond.instanceMethod mi_X9_winner.1 ∈ TB ∧ Cond.selects RX9 mi_X9_winner.1 mi_X9_winner.1 ∈ TB := ⟨tb6 (i := 130) (by decide +kernel) rfl, sel8 (i := 11) (by decide +kernel)⟩
abbrev cX9_playOut : ByteArray := prog_11_method_12_code
def yX9_playOut : MethodName := ⟨RX9, "playOut", "(I)V"⟩
abbrev mi_X9_playOut : Mi := (yX9_playOut, cX9_playOut, 6, none)
def iX9_playOut_0 : List (Nat × Instr × Nat) := [(0, .aload_n 0, 1), (1, .getfield 36, 3), (4, .istore_n 2, 1), (5, .iload_n 2, 1), (6, .ifCond .lt 78, 3), (9, .iload_n 1, 1), (10, .iload_n 2, 1), (11, .invokestatic 65, 3), (14, .iadd, 1), (15, .iconst 1, 1), (16, .iand, 1), (17, .istore_n 3, 1), (18, .iload_n 2, 1), (19, .istore 4, 2), (21, .iload 4, 2), (23, .ifCond .lt 55, 3), (26, .iload_n 2, 1), (27, .aload_n 0, 1), (28, .getfield 36, 3), (31, .iconst (-1), 1), (32, .ixor, 1), (33, .iand, 1), (34, .ifCond .ne 44, 3), (37, .iload 4, 2), (39, .iload_n 2, 1), (40, .iconst (-1), 1), (41, .ixor, 1), (42, .iand, 1), (43, .ifCond .ne 29, 3), (46, .aload_n 0, 1), (47, .iload_n 2, 1), (48, .iload 4, 2), (50, .invokevirtual 32, 3), (53, .istore 5, 2), (55, .aload_n 0, 1), (56, .getfield 21, 3), (59, .iload 5, 2), (61, .aload_n 0, 1), (62, .iload_n 2, 1), (63, .iload 5, 2), (65, .iload_n 3, 1), (66, .invokevirtual 71, 3), (69, .invokestatic 28, 3), (72, .iinc 4 (-1), 3), (75, .goto (-54), 3), (78, .iinc 2 (-1), 3), (81, .goto (-76), 3), (84, .return_, 1)]
theorem kX9_playOut_0 : ckI cX9_playOut iX9_playOut_0 = true := by decide +kernel
theorem my_X9_playOut : MY mi_X9_playOut 1 := ⟨tb6 (i := 126) (by decide +kernel) rfl, tb1 (i := 14) (by decide +kernel) rfl, by decide, by decide +kernel, by decide +kernel, by decide +kernel⟩
theorem vs_X9_playOut : Cond.instanceMethod mi_X9_playOut.1 ∈ TB ∧ Cond.selects RX9 mi_X9_playOut.1 mi_X9_playOut.1 ∈ TB := ⟨tb6 (i := 125) (by decide +kernel) rfl, sel8 (i := 10) (by decide +kernel)⟩
abbrev cX9_winningTurn : ByteArray := prog_11_method_16_code
def yX9_winningTurn : MethodName := ⟨RX9, "winningTurn", "(I)I"⟩
abbrev mi_X9_winningTurn : Mi := (yX9_winningTurn, cX9_winningTurn, 2, (some .int))
def iX9_winningTurn_0 : List (Nat × Instr × Nat) := [(0, .aload_n 0, 1), (1, .iconst 0, 1), (2, .iconst 0, 1), (3, .iconst 1, 1), (4, .iload_n 1, 1), (5, .isub, 1), (6, .invokevirtual 75, 3), (9, .ireturn, 1)]
theorem kX9_winningTurn_0 : ckI cX9_winningTurn iX9_winningTurn_0 = true := by decide +kernel
theorem my_X9_winningTurn : MY mi_X9_winningTurn 1 := ⟨tb6 (i := 147) (by decide +kernel) rfl, tb1 (i := 14) (by decide +kernel) rfl, by decide, by decide +kernel, by decide +kernel, by decide +kernel⟩
theorem vs_X9_winningTurn : Cond.instanceMethod mi_X9_winningTurn.1 ∈ TB ∧ Cond.selects RX9 mi_X9_winningTurn.1 mi_X9_winningTurn.1 ∈ TB := ⟨tb6 (i := 146) (by decide +kernel) rfl, sel8 (i := 14) (by decide +kernel)⟩
abbrev cX9_isProof : ByteArray := prog_11_method_17_code
def yX9_isProof : MethodName := ⟨RX9, "isProof", "(III)Z"⟩
abbrev mi_X9_isProof : Mi := (yX9_isProof, cX9_isProof, 7, (some .boolean))
def iX9_isProof_0 : List (Nat × Instr × Nat) := [(0, .aload_n 0, 1), (1, .iload_n 1, 1), (2, .iload_n 2, 1), (3, .invokevirtual 32, 3), (6, .istore 4, 2), (8, .aload_n 0, 1), (9, .getfield 18, 3), (12, .iload 4, 2), (14, .invokestatic 24, 3), (17, .iload_n 3, 1), (18, .if_icmp .eq 5, 3), (21, .iconst 0, 1), (22, .ireturn, 1), (23, .iconst 0, 1), (24, .istore 5, 2), (26, .iload 5, 2), (28, .bipush 8, 2), (30, .if_icmp .ge 64, 3), (33, .iload_n 2, 1), (34, .iload 5, 2), (36, .invokestatic 46, 3), (39, .ifCond .eq 7, 3), (42, .iconst 2, 1), (43, .goto 4, 3), (46, .iconst 1, 1), (47, .istore 6, 2), (49, .iload_n 1, 1), (50, .iload 5, 2), (52, .invokestatic 46, 3), (55, .ifCond .eq 33, 3), (58, .aload_n 0, 1), (59, .getfield 18, 3), (62, .iload 4, 2), (64, .iload 6, 2), (66, .aload_n 0, 1), (67, .getfield 9, 3), (70, .iconst 1, 1), (71, .iload 5, 2), (73, .ishl, 1), (74, .invokestatic 24, 3), (77, .imul, 1), (78, .isub, 1), (79, .invokestatic 24, 3), (82, .iload_n 3, 1), (83, .if_icmp .ne 5, 3), (86, .iconst 0, 1), (87, .ireturn, 1), (88, .iinc 5 1, 3), (91, .goto (-65), 3), (94, .iconst 1, 1), (95, .ireturn, 1)]
theorem kX9_isProof_0 : ckI cX9_isProof iX9_isProof_0 = true := by decide +kernel
theorem my_X9_isProof : MY mi_X9_isProof 3 := ⟨tb6 (i := 114) (by decide +kernel) rfl, tb1 (i := 14) (by decide +kernel) rfl, by decide, by decide +kernel, by decide +kernel, by decide +kernel⟩
theorem vs_X9_isProof : Cond.instanceMethod mi_X9_isProof.1 ∈ TB ∧ Cond.selects RX9 mi_X9_isProof.1 mi_X9_isProof.1 ∈ TB := ⟨tb6 (i := 113) (by decide +kernel) rfl, sel8 (i := 9) (by decide +kernel)⟩
abbrev cX10_copy : ByteArray := prog_12_method_4_code
def yX10_copy : MethodName := ⟨RX10, "copy", "(LStruckCounts$Worlds;)V"⟩
abbrev mi_X10_copy : Mi := (yX10_copy, cX10_copy, 3, none)
def iX10_copy_0 : List (Nat × Instr × Nat) := [(0, .iconst 0, 1), (1, .istore_n 2, 1), (2, .iload_n 2, 1), (3, .aload_n 0, 1), (4, .getfield 9, 3), (7, .arraylength, 1), (8, .if_icmp .ge 30, 3), (11, .iload_n 2, 1), (12, .aload_n 1, 1), (13, .getfield 9, 3), (16, .arraylength, 1), (17, .if_icmp .ge 21, 3), (20, .aload_n 0, 1), (21, .getfield 9, 3), (24, .iload_n 2, 1), (25, .aload_n 1, 1), (26, .getfield 9, 3), (29, .iload_n 2, 1), (30, .laload, 1), (31, .lastore, 1), (32, .iinc 2 1, 3), (35, .goto (-33), 3), (38, .return_, 1)]
theorem kX10_copy_0 : ckI cX10_copy iX10_copy_0 = true := by decide +kernel
theorem my_X10_copy : MY mi_X10_copy 1 := ⟨tb5 (i := 6) (by decide +kernel) rfl, tb1 (i := 10) (by decide +kernel) rfl, by decide, by decide +kernel, by decide +kernel, by decide +kernel⟩
theorem vs_X10_copy : Cond.instanceMethod mi_X10_copy.1 ∈ TB ∧ Cond.selects RX10 mi_X10_copy.1 mi_X10_copy.1 ∈ TB := ⟨tb5 (i := 5) (by decide +kernel) rfl, sel5 (i := 7) (by decide +kernel)⟩
abbrev cX10_howIn : ByteArray := prog_12_method_13_code
def yX10_howIn : MethodName := ⟨RX10, "howIn", "(LStruckCounts$Worlds;)I"⟩
abbrev mi_X10_howIn : Mi := (yX10_howIn, cX10_howIn, 2, (some .int))
def iX10_howIn_0 : List (Nat × Instr × Nat) := [(0, .aload_n 0, 1), (1, .aload_n 1, 1), (2, .invokevirtual 42, 3), (5, .ifCond .eq 7, 3), (8, .iconst 1, 1), (9, .goto 16, 3), (12, .aload_n 0, 1), (13, .aload_n 1, 1), (14, .invokevirtual 46, 3), (17, .ifCond .eq 7, 3), (20, .iconst 2, 1), (21, .goto 4, 3), (24, .iconst 0, 1), (25, .ireturn, 1)]
theorem kX10_howIn_0 : ckI cX10_howIn iX10_howIn_0 = true := by decide +kernel
theorem my_X10_howIn : MY mi_X10_howIn 1 := ⟨tb5 (i := 56) (by decide +kernel) rfl, tb1 (i := 10) (by decide +kernel) rfl, by decide, by decide +kernel, by decide +kernel, by decide +kernel⟩
theorem vs_X10_howIn : Cond.instanceMethod mi_X10_howIn.1 ∈ TB ∧ Cond.selects RX10 mi_X10_howIn.1 mi_X10_howIn.1 ∈ TB := ⟨tb5 (i := 55) (by decide +kernel) rfl, sel6 (i := 1) (by decide +kernel)⟩
theorem ms_init : Cond.initialized "java/lang/Math" ∈ TB := tb1 (i := 18) (by decide +kernel) rfl
theorem ms_mmax : Cond.static Lib.Math.max.name ∈ TB := tb3 (i := 221) (by decide +kernel) rfl
theorem mc_mmax : Cond.code Lib.Math.max.name Lib.Math.max.code 2 (some .int) ∈ TB := tb3 (i := 222) (by decide +kernel) rfl
theorem ms_mmin : Cond.static Lib.Math.min.name ∈ TB := tb3 (i := 224) (by decide +kernel) rfl
theorem mc_mmin : Cond.code Lib.Math.min.name Lib.Math.min.code 2 (some .int) ∈ TB := tb3 (i := 225) (by decide +kernel) rfl
theorem lk_X3_9 : LK RX3 9 RX3 TX3 0 := Or.inl (tb2 (i := 192) (by decide +kernel) rfl)
theorem lk_X3_15 : LK RX3 15 RX3 TX3 1 := Or.inl (tb2 (i := 193) (by decide +kernel) rfl)
theorem lk_X3_18 : LK RX3 18 RX3 TX3 2 := Or.inl (tb2 (i := 194) (by decide +kernel) rfl)
theorem lk_X3_21 : LK RX3 21 RX3 TX3 3 := Or.inl (tb2 (i := 196) (by decide +kernel) rfl)
theorem lk_X3_24 : LK RX3 24 RX3 TX3 4 := Or.inl (tb2 (i := 198) (by decide +kernel) rfl)
theorem lk_X5_9 : LK RX5 9 RX5 TX5 9 := Or.inl (tb2 (i := 49) (by decide +kernel) rfl)
theorem lt_X5_9 : Cond.fieldLink RX5 9 RX5 (TX5 9).2.1 (TX5 9).2.2.1 ∈ TB := tb2 (i := 49) (by decide +kernel) rfl
theorem lk_X5_15 : LK RX5 15 RX5 TX5 10 := Or.inl (tb2 (i := 51) (by decide +kernel) rfl)
theorem lt_X5_15 : Cond.fieldLink RX5 15 RX5 (TX5 10).2.1 (TX5 10).2.2.1 ∈ TB := tb2 (i := 51) (by decide +kernel) rfl
theorem lk_X5_18 : LK RX5 18 RX5 TX5 11 := Or.inl (tb2 (i := 53) (by decide +kernel) rfl)
theorem lt_X5_18 : Cond.fieldLink RX5 18 RX5 (TX5 11).2.1 (TX5 11).2.2.1 ∈ TB := tb2 (i := 53) (by decide +kernel) rfl
theorem lk_X5_21 : LK RX5 21 RX5 TX5 12 := Or.inl (tb2 (i := 55) (by decide +kernel) rfl)
theorem lt_X5_21 : Cond.fieldLink RX5 21 RX5 (TX5 12).2.1 (TX5 12).2.2.1 ∈ TB := tb2 (i := 55) (by decide +kernel) rfl
theorem lk_X5_24 : LK RX5 24 RX5 TX5 13 := Or.inl (tb2 (i := 57) (by decide +kernel) rfl)
theorem lt_X5_24 : Cond.fieldLink RX5 24 RX5 (TX5 13).2.1 (TX5 13).2.2.1 ∈ TB := tb2 (i := 57) (by decide +kernel) rfl
theorem lk_X5_27 : LK RX5 27 RX5 TX5 14 := Or.inl (tb2 (i := 60) (by decide +kernel) rfl)
theorem lt_X5_27 : Cond.fieldLink RX5 27 RX5 (TX5 14).2.1 (TX5 14).2.2.1 ∈ TB := tb2 (i := 60) (by decide +kernel) rfl
theorem lk_X5_30 : LK RX5 30 RX5 TX5 0 := Or.inl (tb2 (i := 35) (by decide +kernel) rfl)
theorem lk_X5_34 : LK RX5 34 RX5 TX5 1 := Or.inl (tb2 (i := 37) (by decide +kernel) rfl)
theorem lk_X5_38 : LK RX5 38 RX5 TX5 2 := Or.inl (tb2 (i := 39) (by decide +kernel) rfl)
theorem lk_X5_41 : LK RX5 41 RX5 TX5 3 := Or.inl (tb2 (i := 41) (by decide +kernel) rfl)
theorem lk_X5_44 : LK RX5 44 RX5 TX5 4 := Or.inl (tb2 (i := 43) (by decide +kernel) rfl)
theorem lk_X5_47 : LK RX5 47 RX5 TX5 5 := Or.inl (tb2 (i := 44) (by decide +kernel) rfl)
theorem lk_X5_50 : LK RX5 50 RX5 TX5 6 := Or.inl (tb2 (i := 45) (by decide +kernel) rfl)
theorem lk_X5_53 : LK RX5 53 RX5 TX5 7 := Or.inl (tb2 (i := 46) (by decide +kernel) rfl)
theorem lk_X5_56 : LK RX5 56 RX5 TX5 8 := Or.inl (tb2 (i := 47) (by decide +kernel) rfl)
theorem lk_X6_9 : LK RX6 9 RX6 TX6 0 := Or.inl (tb2 (i := 216) (by decide +kernel) rfl)
theorem lt_X6_9 : Cond.fieldLink RX6 9 RX6 (TX6 0).2.1 (TX6 0).2.2.1 ∈ TB := tb2 (i := 216) (by decide +kernel) rfl
theorem lk_X6_15 : LK RX6 15 RX6 TX6 1 := Or.inl (tb2 (i := 218) (by decide +kernel) rfl)
theorem lt_X6_15 : Cond.fieldLink RX6 15 RX6 (TX6 1).2.1 (TX6 1).2.2.1 ∈ TB := tb2 (i := 218) (by decide +kernel) rfl
theorem lk_X6_18 : LK RX6 18 RX6 TX6 2 := Or.inl (tb2 (i := 220) (by decide +kernel) rfl)
theorem lt_X6_18 : Cond.fieldLink RX6 18 RX6 (TX6 2).2.1 (TX6 2).2.2.1 ∈ TB := tb2 (i := 220) (by decide +kernel) rfl
theorem lk_X6_21 : LK RX6 21 RX6 TX6 3 := Or.inl (tb2 (i := 222) (by decide +kernel) rfl)
theorem lt_X6_21 : Cond.fieldLink RX6 21 RX6 (TX6 3).2.1 (TX6 3).2.2.1 ∈ TB := tb2 (i := 222) (by decide +kernel) rfl
theorem lk_X6_25 : LK RX6 25 RX6 TX6 4 := Or.inl (tb2 (i := 224) (by decide +kernel) rfl)
theorem lt_X6_25 : Cond.fieldLink RX6 25 RX6 (TX6 4).2.1 (TX6 4).2.2.1 ∈ TB := tb2 (i := 224) (by decide +kernel) rfl
theorem lk_X6_28 : LK RX6 28 RX6 TX6 5 := Or.inl (tb2 (i := 225) (by decide +kernel) rfl)
theorem lk_X7_9 : LK RX7 9 RX7 TX7 0 := Or.inl (tb1 (i := 36) (by decide +kernel) rfl)
theorem lt_X7_9 : Cond.fieldLink RX7 9 RX7 (TX7 0).2.1 (TX7 0).2.2.1 ∈ TB := tb1 (i := 36) (by decide +kernel) rfl
theorem lk_X7_15 : LK RX7 15 RX7 TX7 1 := Or.inl (tb1 (i := 37) (by decide +kernel) rfl)
theorem lk_X9_9 : LK RX9 9 RX9 TX9 0 := Or.inl (tb2 (i := 169) (by decide +kernel) rfl)
theorem lt_X9_9 : Cond.fieldLink RX9 9 RX9 (TX9 0).2.1 (TX9 0).2.2.1 ∈ TB := tb2 (i := 169) (by decide +kernel) rfl
theorem lk_X9_15 : LK RX9 15 RX9 TX9 1 := Or.inl (tb2 (i := 170) (by decide +kernel) rfl)
theorem lt_X9_15 : Cond.fieldLink RX9 15 RX9 (TX9 1).2.1 (TX9 1).2.2.1 ∈ TB := tb2 (i := 170) (by decide +kernel) rfl
theorem lk_X9_18 : LK RX9 18 RX9 TX9 2 := Or.inl (tb2 (i := 171) (by decide +kernel) rfl)
theorem lt_X9_18 : Cond.fieldLink RX9 18 RX9 (TX9 2).2.1 (TX9 2).2.2.1 ∈ TB := tb2 (i := 171) (by decide +kernel) rfl
theorem lk_X9_21 : LK RX9 21 RX9 TX9 3 := Or.inl (tb2 (i := 172) (by decide +kernel) rfl)
theorem lt_X9_21 : Cond.fieldLink RX9 21 RX9 (TX9 3).2.1 (TX9 3).2.2.1 ∈ TB := tb2 (i := 172) (by decide +kernel) rfl
theorem lk_X9_36 : LK RX9 36 RX9 TX9 4 := Or.inl (tb2 (i := 173) (by decide +kernel) rfl)
theorem lk_X10_9 : LK RX10 9 RX10 TX10 0 := Or.inl (tb1 (i := 171) (by decide +kernel) rfl)
theorem lt_X10_9 : Cond.fieldLink RX10 9 RX10 (TX10 0).2.1 (TX10 0).2.2.1 ∈ TB := tb1 (i := 171) (by decide +kernel) rfl
theorem lm_X3_28 : LM RX3 28 mi_X3_nextFacts := Or.inl (tb5 (i := 219) (by decide +kernel) rfl)
theorem lm_X3_32 : LM RX3 32 mi_J6_bitCount_0f7a4 := Or.inl (tb5 (i := 223) (by decide +kernel) rfl)
theorem lm_X5_59 : LM RX5 59 mi_X11_copyRow := Or.inr ⟨"StruckCounts", nw5 (i := 83) (by decide +kernel) rfl⟩
theorem lm_X5_63 : LM RX5 63 mi_J6_bitCount_0f7a4 := Or.inl (tb5 (i := 95) (by decide +kernel) rfl)
theorem lm_X5_69 : LM RX5 69 mi_X11_has := Or.inr ⟨"StruckCounts", nw4 (i := 193) (by decide +kernel) rfl⟩
theorem lm_X5_73 : LM RX5 73 mi_X11_at := Or.inr ⟨"StruckCounts", nw4 (i := 158) (by decide +kernel) rfl⟩
theorem lm_X5_77 : LM RX5 77 mi_X11_put := Or.inr ⟨"StruckCounts", nw4 (i := 139) (by decide +kernel) rfl⟩
theorem lm_X6_32 : LM RX6 32 mi_X11_wipe := Or.inr ⟨"StruckCounts", nw6 (i := 70) (by decide +kernel) rfl⟩
theorem lm_X6_36 : LM RX6 36 mi_X11_at := Or.inr ⟨"StruckCounts", nw6 (i := 79) (by decide +kernel) rfl⟩
theorem lm_X6_40 : LM RX6 40 mi_X11_put := Or.inr ⟨"StruckCounts", nw6 (i := 80) (by decide +kernel) rfl⟩
theorem lm_X6_44 : LM RX6 44 mi_X11_putLong := Or.inr ⟨"StruckCounts", nw6 (i := 81) (by decide +kernel) rfl⟩
theorem lm_X6_48 : LM RX6 48 mi_X11_longAt := Or.inr ⟨"StruckCounts", nw6 (i := 82) (by decide +kernel) rfl⟩
theorem lm_X7_19 : LM RX7 19 mi_X11_put := Or.inr ⟨"StruckCounts", nw3 (i := 162) (by decide +kernel) rfl⟩
theorem lm_X7_23 : LM RX7 23 mi_X11_at := Or.inr ⟨"StruckCounts", nw3 (i := 183) (by decide +kernel) rfl⟩
theorem lm_X9_24 : LM RX9 24 mi_X11_at := Or.inr ⟨"StruckCounts", nw2 (i := 165) (by decide +kernel) rfl⟩
theorem lm_X9_28 : LM RX9 28 mi_X11_put := Or.inr ⟨"StruckCounts", nw2 (i := 168) (by decide +kernel) rfl⟩
theorem lm_X9_32 : LM RX9 32 mi_X9_node := Or.inl (tb5 (i := 203) (by decide +kernel) rfl)
theorem lm_X9_40 : LM RX9 40 mi_X9_markFrom := Or.inl (tb5 (i := 207) (by decide +kernel) rfl)
theorem lm_X9_43 : LM RX9 43 mi_X9_fewestTrials := Or.inl (tb6 (i := 23) (by decide +kernel) rfl)
theorem lm_X9_46 : LM RX9 46 mi_X11_has := Or.inr ⟨"StruckCounts", nw6 (i := 27) (by decide +kernel) rfl⟩
theorem lm_X9_50 : LM RX9 50 mi_X9_trialsBy := Or.inl (tb6 (i := 28) (by decide +kernel) rfl)
theorem lm_X9_53 : Cond.methodLink RX9 53 Lib.Math.min.name ∈ TB := tb6 (i := 33) (by decide +kernel) rfl
theorem lm_X9_58 : Cond.methodLink RX9 58 Lib.Math.max.name ∈ TB := tb6 (i := 32) (by decide +kernel) rfl
theorem lm_X9_61 : LM RX9 61 mi_X9_value := Or.inl (tb6 (i := 42) (by decide +kernel) rfl)
theorem lm_X9_65 : LM RX9 65 mi_J6_bitCount_0f7a4 := Or.inl (tb6 (i := 127) (by decide +kernel) rfl)
theorem lm_X9_71 : LM RX9 71 mi_X9_winner := Or.inl (tb6 (i := 128) (by decide +kernel) rfl)
theorem lm_X9_75 : LM RX9 75 mi_X9_bestTurn := Or.inl (tb6 (i := 132) (by decide +kernel) rfl)
theorem lm_X9_78 : LM RX9 78 mi_X9_leadsTo := Or.inl (tb6 (i := 136) (by decide +kernel) rfl)
theorem lm_X10_32 : LM RX10 32 mi_X10_size := Or.inl (tb4 (i := 116) (by decide +kernel) rfl)
theorem lm_X10_36 : LM RX10 36 mi_J13_bitCount_95d88 := Or.inl (tb4 (i := 120) (by decide +kernel) rfl)
theorem lm_X10_42 : LM RX10 42 mi_X10_within := Or.inl (tb5 (i := 57) (by decide +kernel) rfl)
theorem lm_X10_46 : LM RX10 46 mi_X10_meets := Or.inl (tb5 (i := 58) (by decide +kernel) rfl)
theorem kc_J6_265 : Cond.constant RJ6 265 (1431655765 : Int32) ∈ TB := tb4 (i := 226) (by decide +kernel) rfl
theorem kc_J6_266 : Cond.constant RJ6 266 (858993459 : Int32) ∈ TB := tb4 (i := 227) (by decide +kernel) rfl
theorem kc_J6_267 : Cond.constant RJ6 267 (252645135 : Int32) ∈ TB := tb4 (i := 228) (by decide +kernel) rfl
theorem kl_X10_18 : Cond.constantLong RX10 18 (-1 : Int64) ∈ TB := tb3 (i := 11) (by decide +kernel) rfl
theorem kl_J13_314 : Cond.constantLong RJ13 314 (6148914691236517205 : Int64) ∈ TB := tb4 (i := 123) (by decide +kernel) rfl
theorem kl_J13_316 : Cond.constantLong RJ13 316 (3689348814741910323 : Int64) ∈ TB := tb4 (i := 124) (by decide +kernel) rfl
theorem kl_J13_318 : Cond.constantLong RJ13 318 (1085102592571150095 : Int64) ∈ TB := tb4 (i := 125) (by decide +kernel) rfl
