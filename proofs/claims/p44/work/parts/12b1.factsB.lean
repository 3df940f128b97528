abbrev cX4_leafYes : ByteArray := prog_6_method_5_code
def yX4_leafYes : MethodName := ⟨RX4, "leafYes", "(I)J"⟩
abbrev mi_X4_leafYes : Mi := (yX4_leafYes, cX4_leafYes, 2, (some .long))
def iX4_leafYes_0 : List (Nat × Instr × Nat) := [(0, .aload_n 0, 1), (1, .getfield 21, 3), (4, .iconst (-1), 1), (5, .if_icmp .ne 27, 3), (8, .aload_n 0, 1), (9, .getfield 42, 3), (12, .aload_n 0, 1), (13, .getfield 45, 3), (16, .iand, 1), (17, .iload_n 1, 1), (18, .invokestatic 85, 3), (21, .ifCond .eq 9, 3), (24, .ldc2_w 89, 3), (27, .goto 4, 3), (30, .lconst 0, 1), (31, .lreturn, 1), (32, .iload_n 1, 1), (33, .aload_n 0, 1), (34, .getfield 21, 3), (37, .invokestatic 91, 3), (40, .lreturn, 1)]
theorem kX4_leafYes_0 : ckI cX4_leafYes iX4_leafYes_0 = true := by decide +kernel
theorem my_X4_leafYes : MY mi_X4_leafYes 1 := ⟨tb3 (i := 72) (by decide +kernel) rfl, tb1 (i := 8) (by decide +kernel) rfl, by decide, by decide +kernel, by decide +kernel, by decide +kernel⟩
theorem vs_X4_leafYes : Cond.instanceMethod mi_X4_leafYes.1 ∈ TB ∧ Cond.selects RX4 mi_X4_leafYes.1 mi_X4_leafYes.1 ∈ TB := ⟨tb3 (i := 71) (by decide +kernel) rfl, sel1 (i := 9) (by decide +kernel)⟩
abbrev cX4_leafNo : ByteArray := prog_6_method_6_code
def yX4_leafNo : MethodName := ⟨RX4, "leafNo", "(I)J"⟩
abbrev mi_X4_leafNo : Mi := (yX4_leafNo, cX4_leafNo, 2, (some .long))
def iX4_leafNo_0 : List (Nat × Instr × Nat) := [(0, .aload_n 0, 1), (1, .getfield 21, 3), (4, .iconst (-1), 1), (5, .if_icmp .ne 29, 3), (8, .aload_n 0, 1), (9, .getfield 42, 3), (12, .aload_n 0, 1), (13, .getfield 45, 3), (16, .iconst (-1), 1), (17, .ixor, 1), (18, .iand, 1), (19, .iload_n 1, 1), (20, .invokestatic 85, 3), (23, .ifCond .eq 9, 3), (26, .ldc2_w 89, 3), (29, .goto 4, 3), (32, .lconst 0, 1), (33, .lreturn, 1), (34, .iload_n 1, 1), (35, .aload_n 0, 1), (36, .getfield 21, 3), (39, .invokestatic 91, 3), (42, .ldc2_w 89, 3), (45, .lxor, 1), (46, .lreturn, 1)]
theorem kX4_leafNo_0 : ckI cX4_leafNo iX4_leafNo_0 = true := by decide +kernel
theorem my_X4_leafNo : MY mi_X4_leafNo 1 := ⟨tb3 (i := 79) (by decide +kernel) rfl, tb1 (i := 8) (by decide +kernel) rfl, by decide, by decide +kernel, by decide +kernel, by decide +kernel⟩
theorem vs_X4_leafNo : Cond.instanceMethod mi_X4_leafNo.1 ∈ TB ∧ Cond.selects RX4 mi_X4_leafNo.1 mi_X4_leafNo.1 ∈ TB := ⟨tb3 (i := 78) (by decide +kernel) rfl, sel1 (i := 10) (by decide +kernel)⟩
abbrev cX4_atLeast : ByteArray := prog_6_method_7_code
def yX4_atLeast : MethodName := ⟨RX4, "atLeast", "(I[JI)J"⟩
abbrev mi_X4_atLeast : Mi := (yX4_atLeast, cX4_atLeast, 8, (some .long))
def iX4_atLeast_0 : List (Nat × Instr × Nat) := [(0, .iload_n 1, 1), (1, .ifCond .gt 7, 3), (4, .ldc2_w 89, 3), (7, .lreturn, 1), (8, .iload_n 1, 1), (9, .iload_n 3, 1), (10, .if_icmp .le 5, 3), (13, .lconst 0, 1), (14, .lreturn, 1), (15, .iconst 0, 1), (16, .istore 4, 2), (18, .iload 4, 2), (20, .aload_n 0, 1), (21, .getfield 18, 3), (24, .arraylength, 1), (25, .if_icmp .ge 28, 3), (28, .aload_n 0, 1), (29, .getfield 18, 3), (32, .iload 4, 2), (34, .iload 4, 2), (36, .ifCond .ne 9, 3), (39, .ldc2_w 89, 3), (42, .goto 4, 3), (45, .lconst 0, 1), (46, .lastore, 1), (47, .iinc 4 1, 3), (50, .goto (-32), 3), (53, .iconst 0, 1), (54, .istore 4, 2), (56, .iload 4, 2), (58, .iload_n 3, 1), (59, .if_icmp .ge 60, 3), (62, .aload_n 0, 1), (63, .aload_n 2, 1), (64, .iload 4, 2), (66, .invokevirtual 78, 3), (69, .lstore 5, 2), (71, .aload_n 0, 1), (72, .getfield 18, 3), (75, .arraylength, 1), (76, .iconst 1, 1), (77, .isub, 1), (78, .istore 7, 2), (80, .iload 7, 2), (82, .ifCond .le 31, 3), (85, .aload_n 0, 1), (86, .getfield 18, 3), (89, .iload 7, 2), (91, .dup2, 1), (92, .laload, 1), (93, .aload_n 0, 1), (94, .getfield 18, 3), (97, .iload 7, 2), (99, .iconst 1, 1), (100, .isub, 1), (101, .laload, 1), (102, .lload 5, 2), (104, .land, 1), (105, .lor, 1), (106, .lastore, 1), (107, .iinc 7 (-1), 3), (110, .goto (-30), 3), (113, .iinc 4 1, 3), (116, .goto (-60), 3)]
theorem kX4_atLeast_0 : ckI cX4_atLeast iX4_atLeast_0 = true := by decide +kernel
def iX4_atLeast_1 : List (Nat × Instr × Nat) := [(119, .aload_n 0, 1), (120, .getfield 18, 3), (123, .iload_n 1, 1), (124, .invokestatic 34, 3), (127, .lreturn, 1)]
theorem kX4_atLeast_1 : ckI cX4_atLeast iX4_atLeast_1 = true := by decide +kernel
theorem my_X4_atLeast : MY mi_X4_atLeast 3 := ⟨tb3 (i := 87) (by decide +kernel) rfl, tb1 (i := 8) (by decide +kernel) rfl, by decide, by decide +kernel, by decide +kernel, by decide +kernel⟩
theorem vs_X4_atLeast : Cond.instanceMethod mi_X4_atLeast.1 ∈ TB ∧ Cond.selects RX4 mi_X4_atLeast.1 mi_X4_atLeast.1 ∈ TB := ⟨tb3 (i := 86) (by decide +kernel) rfl, sel1 (i := 12) (by decide +kernel)⟩
abbrev cX4_top : ByteArray := prog_6_method_8_code
def yX4_top : MethodName := ⟨RX4, "top", "([JI)J"⟩
abbrev mi_X4_top : Mi := (yX4_top, cX4_top, 4, (some .long))
def iX4_top_0 : List (Nat × Instr × Nat) := [(0, .aload_n 0, 1), (1, .getfield 64, 3), (4, .iconst 1, 1), (5, .isub, 1), (6, .iload_n 2, 1), (7, .isub, 1), (8, .istore_n 3, 1), (9, .iload_n 3, 1), (10, .ifCond .lt 15, 3), (13, .iload_n 3, 1), (14, .aload_n 1, 1), (15, .arraylength, 1), (16, .if_icmp .ge 9, 3), (19, .aload_n 1, 1), (20, .iload_n 3, 1), (21, .laload, 1), (22, .goto 4, 3), (25, .lconst 0, 1), (26, .lreturn, 1)]
theorem kX4_top_0 : ckI cX4_top iX4_top_0 = true := by decide +kernel
theorem my_X4_top : MY mi_X4_top 2 := ⟨tb3 (i := 83) (by decide +kernel) rfl, tb1 (i := 8) (by decide +kernel) rfl, by decide, by decide +kernel, by decide +kernel, by decide +kernel⟩
theorem vs_X4_top : Cond.instanceMethod mi_X4_top.1 ∈ TB ∧ Cond.selects RX4 mi_X4_top.1 mi_X4_top.1 ∈ TB := ⟨tb3 (i := 82) (by decide +kernel) rfl, sel1 (i := 11) (by decide +kernel)⟩
abbrev cX4_replace : ByteArray := prog_6_method_9_code
def yX4_replace : MethodName := ⟨RX4, "replace", "(IJJ)V"⟩
abbrev mi_X4_replace : Mi := (yX4_replace, cX4_replace, 6, none)
def iX4_replace_0 : List (Nat × Instr × Nat) := [(0, .aload_n 0, 1), (1, .dup, 1), (2, .getfield 64, 3), (5, .iload_n 1, 1), (6, .isub, 1), (7, .putfield 64, 3), (10, .aload_n 0, 1), (11, .getfield 64, 3), (14, .ifCond .lt 48, 3), (17, .aload_n 0, 1), (18, .getfield 64, 3), (21, .aload_n 0, 1), (22, .getfield 11, 3), (25, .arraylength, 1), (26, .if_icmp .ge 36, 3), (29, .aload_n 0, 1), (30, .getfield 64, 3), (33, .aload_n 0, 1), (34, .getfield 15, 3), (37, .arraylength, 1), (38, .if_icmp .ge 24, 3), (41, .aload_n 0, 1), (42, .getfield 11, 3), (45, .aload_n 0, 1), (46, .getfield 64, 3), (49, .lload_n 2, 1), (50, .lastore, 1), (51, .aload_n 0, 1), (52, .getfield 15, 3), (55, .aload_n 0, 1), (56, .getfield 64, 3), (59, .lload 4, 2), (61, .lastore, 1), (62, .aload_n 0, 1), (63, .dup, 1), (64, .getfield 64, 3), (67, .iconst 1, 1), (68, .iadd, 1), (69, .putfield 64, 3), (72, .return_, 1)]
theorem kX4_replace_0 : ckI cX4_replace iX4_replace_0 = true := by decide +kernel
theorem my_X4_replace : MY mi_X4_replace 3 := ⟨tb3 (i := 68) (by decide +kernel) rfl, tb1 (i := 8) (by decide +kernel) rfl, by decide, by decide +kernel, by decide +kernel, by decide +kernel⟩
theorem vs_X4_replace : Cond.instanceMethod mi_X4_replace.1 ∈ TB ∧ Cond.selects RX4 mi_X4_replace.1 mi_X4_replace.1 ∈ TB := ⟨tb3 (i := 67) (by decide +kernel) rfl, sel1 (i := 8) (by decide +kernel)⟩
abbrev cX5_init : ByteArray := prog_7_method_1_code
def yX5_init : MethodName := ⟨RX5, "<init>", "()V"⟩
abbrev mi_X5_init : Mi := (yX5_init, cX5_init, 1, none)
def iX5_init_0 : List (Nat × Instr × Nat) := [(0, .aload_n 0, 1), (1, .invokespecial 3, 3), (4, .aload_n 0, 1), (5, .bipush 8, 2), (7, .newarray .int, 2), (9, .putfield 9, 3), (12, .aload_n 0, 1), (13, .bipush 8, 2), (15, .newarray .int, 2), (17, .putfield 15, 3), (20, .aload_n 0, 1), (21, .bipush 8, 2), (23, .newarray .int, 2), (25, .putfield 18, 3), (28, .aload_n 0, 1), (29, .bipush 8, 2), (31, .newarray .int, 2), (33, .putfield 21, 3), (36, .aload_n 0, 1), (37, .bipush 8, 2), (39, .newarray .int, 2), (41, .putfield 24, 3), (44, .aload_n 0, 1), (45, .bipush 8, 2), (47, .newarray .int, 2), (49, .putfield 27, 3), (52, .return_, 1)]
theorem kX5_init_0 : ckI cX5_init iX5_init_0 = true := by decide +kernel
theorem my_X5_init : MY mi_X5_init 0 := ⟨tb2 (i := 53) (by decide +kernel) rfl, tb1 (i := 11) (by decide +kernel) rfl, by decide, by decide +kernel, by decide +kernel, by decide +kernel⟩
theorem is_X5_init : mi_X5_init.1.name = "<init>" ∧ Cond.instanceMethod mi_X5_init.1 ∈ TB := ⟨rfl, tb2 (i := 52) (by decide +kernel) rfl⟩
abbrev cX5_clear : ByteArray := prog_7_method_2_code
def yX5_clear : MethodName := ⟨RX5, "clear", "()V"⟩
abbrev mi_X5_clear : Mi := (yX5_clear, cX5_clear, 1, none)
def iX5_clear_0 : List (Nat × Instr × Nat) := [(0, .aload_n 0, 1), (1, .iconst 0, 1), (2, .putfield 30, 3), (5, .aload_n 0, 1), (6, .iconst 0, 1), (7, .putfield 34, 3), (10, .aload_n 0, 1), (11, .iconst 0, 1), (12, .putfield 38, 3), (15, .aload_n 0, 1), (16, .iconst 0, 1), (17, .putfield 41, 3), (20, .aload_n 0, 1), (21, .iconst 0, 1), (22, .putfield 44, 3), (25, .aload_n 0, 1), (26, .iconst 0, 1), (27, .putfield 47, 3), (30, .aload_n 0, 1), (31, .iconst 0, 1), (32, .putfield 50, 3), (35, .aload_n 0, 1), (36, .iconst 0, 1), (37, .putfield 53, 3), (40, .aload_n 0, 1), (41, .iconst 0, 1), (42, .putfield 56, 3), (45, .return_, 1)]
theorem kX5_clear_0 : ckI cX5_clear iX5_clear_0 = true := by decide +kernel
theorem my_X5_clear : MY mi_X5_clear 0 := ⟨tb6 (i := 168) (by decide +kernel) rfl, tb1 (i := 11) (by decide +kernel) rfl, by decide, by decide +kernel, by decide +kernel, by decide +kernel⟩
theorem vs_X5_clear : Cond.instanceMethod mi_X5_clear.1 ∈ TB ∧ Cond.selects RX5 mi_X5_clear.1 mi_X5_clear.1 ∈ TB := ⟨tb6 (i := 167) (by decide +kernel) rfl, sel3 (i := 9) (by decide +kernel)⟩
abbrev cX5_copy : ByteArray := prog_7_method_3_code
def yX5_copy : MethodName := ⟨RX5, "copy", "(LStruckCounts$State;)V"⟩
abbrev mi_X5_copy : Mi := (yX5_copy, cX5_copy, 2, none)
def iX5_copy_0 : List (Nat × Instr × Nat) := [(0, .aload_n 0, 1), (1, .aload_n 1, 1), (2, .getfield 30, 3), (5, .putfield 30, 3), (8, .aload_n 0, 1), (9, .aload_n 1, 1), (10, .getfield 34, 3), (13, .putfield 34, 3), (16, .aload_n 0, 1), (17, .aload_n 1, 1), (18, .getfield 38, 3), (21, .putfield 38, 3), (24, .aload_n 0, 1), (25, .aload_n 1, 1), (26, .getfield 41, 3), (29, .putfield 41, 3), (32, .aload_n 0, 1), (33, .aload_n 1, 1), (34, .getfield 44, 3), (37, .putfield 44, 3), (40, .aload_n 0, 1), (41, .aload_n 1, 1), (42, .getfield 47, 3), (45, .putfield 47, 3), (48, .aload_n 0, 1), (49, .aload_n 1, 1), (50, .getfield 50, 3), (53, .putfield 50, 3), (56, .aload_n 0, 1), (57, .aload_n 1, 1), (58, .getfield 53, 3), (61, .putfield 53, 3), (64, .aload_n 0, 1), (65, .aload_n 1, 1), (66, .getfield 56, 3), (69, .putfield 56, 3), (72, .aload_n 1, 1), (73, .getfield 9, 3), (76, .aload_n 0, 1), (77, .getfield 9, 3), (80, .invokestatic 59, 3), (83, .aload_n 1, 1), (84, .getfield 15, 3), (87, .aload_n 0, 1), (88, .getfield 15, 3), (91, .invokestatic 59, 3), (94, .aload_n 1, 1), (95, .getfield 18, 3), (98, .aload_n 0, 1), (99, .getfield 18, 3), (102, .invokestatic 59, 3), (105, .aload_n 1, 1), (106, .getfield 21, 3), (109, .aload_n 0, 1), (110, .getfield 21, 3), (113, .invokestatic 59, 3), (116, .aload_n 1, 1), (117, .getfield 24, 3), (120, .aload_n 0, 1), (121, .getfield 24, 3), (124, .invokestatic 59, 3), (127, .aload_n 1, 1), (128, .getfield 27, 3), (131, .aload_n 0, 1)]
theorem kX5_copy_0 : ckI cX5_copy iX5_copy_0 = true := by decide +kernel
def iX5_copy_1 : List (Nat × Instr × Nat) := [(132, .getfield 27, 3), (135, .invokestatic 59, 3), (138, .return_, 1)]
theorem kX5_copy_1 : ckI cX5_copy iX5_copy_1 = true := by decide +kernel
theorem my_X5_copy : MY mi_X5_copy 1 := ⟨tb8 (i := 48) (by decide +kernel) rfl, tb1 (i := 11) (by decide +kernel) rfl, by decide, by decide +kernel, by decide +kernel, by decide +kernel⟩
theorem vs_X5_copy : Cond.instanceMethod mi_X5_copy.1 ∈ TB ∧ Cond.selects RX5 mi_X5_copy.1 mi_X5_copy.1 ∈ TB := ⟨tb8 (i := 47) (by decide +kernel) rfl, sel7 (i := 12) (by decide +kernel)⟩
abbrev cX5_known : ByteArray := prog_7_method_4_code
def yX5_known : MethodName := ⟨RX5, "known", "()I"⟩
abbrev mi_X5_known : Mi := (yX5_known, cX5_known, 1, (some .int))
def iX5_known_0 : List (Nat × Instr × Nat) := [(0, .aload_n 0, 1), (1, .getfield 44, 3), (4, .aload_n 0, 1), (5, .getfield 53, 3), (8, .ior, 1), (9, .ireturn, 1)]
theorem kX5_known_0 : ckI cX5_known iX5_known_0 = true := by decide +kernel
theorem my_X5_known : MY mi_X5_known 0 := ⟨tb7 (i := 87) (by decide +kernel) rfl, tb1 (i := 11) (by decide +kernel) rfl, by decide, by decide +kernel, by decide +kernel, by decide +kernel⟩
theorem vs_X5_known : Cond.instanceMethod mi_X5_known.1 ∈ TB ∧ Cond.selects RX5 mi_X5_known.1 mi_X5_known.1 ∈ TB := ⟨tb7 (i := 86) (by decide +kernel) rfl, sel5 (i := 11) (by decide +kernel)⟩
abbrev cX5_answered : ByteArray := prog_7_method_5_code
def yX5_answered : MethodName := ⟨RX5, "answered", "()I"⟩
abbrev mi_X5_answered : Mi := (yX5_answered, cX5_answered, 1, (some .int))
def iX5_answered_0 : List (Nat × Instr × Nat) := [(0, .aload_n 0, 1), (1, .getfield 44, 3), (4, .aload_n 0, 1), (5, .getfield 47, 3), (8, .ior, 1), (9, .aload_n 0, 1), (10, .getfield 50, 3), (13, .ior, 1), (14, .aload_n 0, 1), (15, .getfield 53, 3), (18, .ior, 1), (19, .invokestatic 63, 3), (22, .ireturn, 1)]
theorem kX5_answered_0 : ckI cX5_answered iX5_answered_0 = true := by decide +kernel
theorem my_X5_answered : MY mi_X5_answered 0 := ⟨tb8 (i := 60) (by decide +kernel) rfl, tb1 (i := 11) (by decide +kernel) rfl, by decide, by decide +kernel, by decide +kernel, by decide +kernel⟩
theorem vs_X5_answered : Cond.instanceMethod mi_X5_answered.1 ∈ TB ∧ Cond.selects RX5 mi_X5_answered.1 mi_X5_answered.1 ∈ TB := ⟨tb8 (i := 59) (by decide +kernel) rfl, sel7 (i := 14) (by decide +kernel)⟩
abbrev cX5_howIs : ByteArray := prog_7_method_6_code
def yX5_howIs : MethodName := ⟨RX5, "howIs", "(I)I"⟩
abbrev mi_X5_howIs : Mi := (yX5_howIs, cX5_howIs, 2, (some .int))
def iX5_howIs_0 : List (Nat × Instr × Nat) := [(0, .aload_n 0, 1), (1, .getfield 44, 3), (4, .iload_n 1, 1), (5, .invokestatic 69, 3), (8, .ifCond .eq 5, 3), (11, .iconst 1, 1), (12, .ireturn, 1), (13, .aload_n 0, 1), (14, .getfield 47, 3), (17, .iload_n 1, 1), (18, .invokestatic 69, 3), (21, .ifCond .eq 5, 3), (24, .iconst 2, 1), (25, .ireturn, 1), (26, .aload_n 0, 1), (27, .getfield 50, 3), (30, .iload_n 1, 1), (31, .invokestatic 69, 3), (34, .ifCond .eq 5, 3), (37, .iconst 3, 1), (38, .ireturn, 1), (39, .aload_n 0, 1), (40, .getfield 53, 3), (43, .iload_n 1, 1), (44, .invokestatic 69, 3), (47, .ifCond .eq 7, 3), (50, .iconst 4, 1), (51, .goto 4, 3), (54, .iconst 0, 1), (55, .ireturn, 1)]
theorem kX5_howIs_0 : ckI cX5_howIs iX5_howIs_0 = true := by decide +kernel
theorem my_X5_howIs : MY mi_X5_howIs 1 := ⟨tb7 (i := 208) (by decide +kernel) rfl, tb1 (i := 11) (by decide +kernel) rfl, by decide, by decide +kernel, by decide +kernel, by decide +kernel⟩
theorem vs_X5_howIs : Cond.instanceMethod mi_X5_howIs.1 ∈ TB ∧ Cond.selects RX5 mi_X5_howIs.1 mi_X5_howIs.1 ∈ TB := ⟨tb7 (i := 207) (by decide +kernel) rfl, sel7 (i := 1) (by decide +kernel)⟩
abbrev cX5_become : ByteArray := prog_7_method_7_code
def yX5_become : MethodName := ⟨RX5, "become", "(IIZ)V"⟩
abbrev mi_X5_become : Mi := (yX5_become, cX5_become, 6, none)
def iX5_become_0 : List (Nat × Instr × Nat) := [(0, .iconst 1, 1), (1, .iload_n 1, 1), (2, .ishl, 1), (3, .istore 4, 2), (5, .aload_n 0, 1), (6, .iload_n 2, 1), (7, .iconst 1, 1), (8, .if_icmp .ne 13, 3), (11, .aload_n 0, 1), (12, .getfield 44, 3), (15, .iload 4, 2), (17, .ior, 1), (18, .goto 12, 3), (21, .aload_n 0, 1), (22, .getfield 44, 3), (25, .iload 4, 2), (27, .iconst (-1), 1), (28, .ixor, 1), (29, .iand, 1), (30, .putfield 44, 3), (33, .aload_n 0, 1), (34, .iload_n 2, 1), (35, .iconst 2, 1), (36, .if_icmp .ne 13, 3), (39, .aload_n 0, 1), (40, .getfield 47, 3), (43, .iload 4, 2), (45, .ior, 1), (46, .goto 12, 3), (49, .aload_n 0, 1), (50, .getfield 47, 3), (53, .iload 4, 2), (55, .iconst (-1), 1), (56, .ixor, 1), (57, .iand, 1), (58, .putfield 47, 3), (61, .aload_n 0, 1), (62, .iload_n 2, 1), (63, .iconst 3, 1), (64, .if_icmp .ne 13, 3), (67, .aload_n 0, 1), (68, .getfield 50, 3), (71, .iload 4, 2), (73, .ior, 1), (74, .goto 12, 3), (77, .aload_n 0, 1), (78, .getfield 50, 3), (81, .iload 4, 2), (83, .iconst (-1), 1), (84, .ixor, 1), (85, .iand, 1), (86, .putfield 50, 3), (89, .aload_n 0, 1), (90, .iload_n 2, 1), (91, .iconst 4, 1), (92, .if_icmp .ne 13, 3), (95, .aload_n 0, 1), (96, .getfield 53, 3), (99, .iload 4, 2), (101, .ior, 1), (102, .goto 12, 3), (105, .aload_n 0, 1), (106, .getfield 53, 3), (109, .iload 4, 2)]
theorem kX5_become_0 : ckI cX5_become iX5_become_0 = true := by decide +kernel
def iX5_become_1 : List (Nat × Instr × Nat) := [(111, .iconst (-1), 1), (112, .ixor, 1), (113, .iand, 1), (114, .putfield 53, 3), (117, .iload_n 3, 1), (118, .ifCond .eq 17, 3), (121, .iload_n 2, 1), (122, .iconst 1, 1), (123, .if_icmp .eq 8, 3), (126, .iload_n 2, 1), (127, .iconst 4, 1), (128, .if_icmp .ne 7, 3), (131, .iconst 1, 1), (132, .goto 4, 3), (135, .iconst 0, 1), (136, .istore 5, 2), (138, .aload_n 0, 1), (139, .iload 5, 2), (141, .ifCond .eq 13, 3), (144, .aload_n 0, 1), (145, .getfield 56, 3), (148, .iload 4, 2), (150, .ior, 1), (151, .goto 12, 3), (154, .aload_n 0, 1), (155, .getfield 56, 3), (158, .iload 4, 2), (160, .iconst (-1), 1), (161, .ixor, 1), (162, .iand, 1), (163, .putfield 56, 3), (166, .return_, 1)]
theorem kX5_become_1 : ckI cX5_become iX5_become_1 = true := by decide +kernel
theorem my_X5_become : MY mi_X5_become 3 := ⟨tb8 (i := 56) (by decide +kernel) rfl, tb1 (i := 11) (by decide +kernel) rfl, by decide, by decide +kernel, by decide +kernel, by decide +kernel⟩
theorem vs_X5_become : Cond.instanceMethod mi_X5_become.1 ∈ TB ∧ Cond.selects RX5 mi_X5_become.1 mi_X5_become.1 ∈ TB := ⟨tb8 (i := 55) (by decide +kernel) rfl, sel7 (i := 13) (by decide +kernel)⟩
abbrev cX5_sayers : ByteArray := prog_7_method_8_code
def yX5_sayers : MethodName := ⟨RX5, "sayers", "(I)I"⟩
abbrev mi_X5_sayers : Mi := (yX5_sayers, cX5_sayers, 4, (some .int))
def iX5_sayers_0 : List (Nat × Instr × Nat) := [(0, .iconst 0, 1), (1, .istore_n 2, 1), (2, .iconst 0, 1), (3, .istore_n 3, 1), (4, .iload_n 3, 1), (5, .aload_n 0, 1), (6, .getfield 38, 3), (9, .if_icmp .ge 30, 3), (12, .aload_n 0, 1), (13, .getfield 24, 3), (16, .iload_n 3, 1), (17, .invokestatic 73, 3), (20, .iload_n 1, 1), (21, .invokestatic 69, 3), (24, .ifCond .eq 9, 3), (27, .iload_n 2, 1), (28, .iconst 1, 1), (29, .iload_n 3, 1), (30, .ishl, 1), (31, .ior, 1), (32, .istore_n 2, 1), (33, .iinc 3 1, 3), (36, .goto (-32), 3), (39, .iload_n 2, 1), (40, .ireturn, 1)]
theorem kX5_sayers_0 : ckI cX5_sayers iX5_sayers_0 = true := by decide +kernel
theorem my_X5_sayers : MY mi_X5_sayers 1 := ⟨tb7 (i := 213) (by decide +kernel) rfl, tb1 (i := 11) (by decide +kernel) rfl, by decide, by decide +kernel, by decide +kernel, by decide +kernel⟩
theorem vs_X5_sayers : Cond.instanceMethod mi_X5_sayers.1 ∈ TB ∧ Cond.selects RX5 mi_X5_sayers.1 mi_X5_sayers.1 ∈ TB := ⟨tb7 (i := 212) (by decide +kernel) rfl, sel7 (i := 2) (by decide +kernel)⟩
abbrev cX5_firstSayer : ByteArray := prog_7_method_9_code
def yX5_firstSayer : MethodName := ⟨RX5, "firstSayer", "(I)I"⟩
abbrev mi_X5_firstSayer : Mi := (yX5_firstSayer, cX5_firstSayer, 3, (some .int))
def iX5_firstSayer_0 : List (Nat × Instr × Nat) := [(0, .iconst 0, 1), (1, .istore_n 2, 1), (2, .iload_n 2, 1), (3, .aload_n 0, 1), (4, .getfield 38, 3), (7, .if_icmp .ge 37, 3), (10, .aload_n 0, 1), (11, .getfield 24, 3), (14, .iload_n 2, 1), (15, .invokestatic 73, 3), (18, .iload_n 1, 1), (19, .invokestatic 69, 3), (22, .ifCond .eq 16, 3), (25, .aload_n 0, 1), (26, .getfield 41, 3), (29, .iload_n 2, 1), (30, .invokestatic 69, 3), (33, .ifCond .ne 5, 3), (36, .iload_n 2, 1), (37, .ireturn, 1), (38, .iinc 2 1, 3), (41, .goto (-39), 3), (44, .iconst (-1), 1), (45, .ireturn, 1)]
theorem kX5_firstSayer_0 : ckI cX5_firstSayer iX5_firstSayer_0 = true := by decide +kernel
theorem my_X5_firstSayer : MY mi_X5_firstSayer 1 := ⟨tb8 (i := 77) (by decide +kernel) rfl, tb1 (i := 11) (by decide +kernel) rfl, by decide, by decide +kernel, by decide +kernel, by decide +kernel⟩
theorem vs_X5_firstSayer : Cond.instanceMethod mi_X5_firstSayer.1 ∈ TB ∧ Cond.selects RX5 mi_X5_firstSayer.1 mi_X5_firstSayer.1 ∈ TB := ⟨tb8 (i := 76) (by decide +kernel) rfl, sel8 (i := 0) (by decide +kernel)⟩
abbrev cX5_tell : ByteArray := prog_7_method_10_code
def yX5_tell : MethodName := ⟨RX5, "tell", "(III)V"⟩
abbrev mi_X5_tell : Mi := (yX5_tell, cX5_tell, 5, none)
def iX5_tell_0 : List (Nat × Instr × Nat) := [(0, .iconst 1, 1), (1, .iload_n 2, 1), (2, .ishl, 1), (3, .istore 4, 2), (5, .aload_n 0, 1), (6, .getfield 24, 3), (9, .iload_n 1, 1), (10, .iload_n 3, 1), (11, .iconst 2, 1), (12, .if_icmp .ge 17, 3), (15, .aload_n 0, 1), (16, .getfield 24, 3), (19, .iload_n 1, 1), (20, .invokestatic 73, 3), (23, .iload 4, 2), (25, .ior, 1), (26, .goto 16, 3), (29, .aload_n 0, 1), (30, .getfield 24, 3), (33, .iload_n 1, 1), (34, .invokestatic 73, 3), (37, .iload 4, 2), (39, .iconst (-1), 1), (40, .ixor, 1), (41, .iand, 1), (42, .invokestatic 77, 3), (45, .aload_n 0, 1), (46, .getfield 27, 3), (49, .iload_n 1, 1), (50, .iload_n 3, 1), (51, .iconst 1, 1), (52, .if_icmp .ne 17, 3), (55, .aload_n 0, 1), (56, .getfield 27, 3), (59, .iload_n 1, 1), (60, .invokestatic 73, 3), (63, .iload 4, 2), (65, .ior, 1), (66, .goto 16, 3), (69, .aload_n 0, 1), (70, .getfield 27, 3), (73, .iload_n 1, 1), (74, .invokestatic 73, 3), (77, .iload 4, 2), (79, .iconst (-1), 1), (80, .ixor, 1), (81, .iand, 1), (82, .invokestatic 77, 3), (85, .return_, 1)]
theorem kX5_tell_0 : ckI cX5_tell iX5_tell_0 = true := by decide +kernel
theorem my_X5_tell : MY mi_X5_tell 3 := ⟨tb7 (i := 49) (by decide +kernel) rfl, tb1 (i := 11) (by decide +kernel) rfl, by decide, by decide +kernel, by decide +kernel, by decide +kernel⟩
theorem vs_X5_tell : Cond.instanceMethod mi_X5_tell.1 ∈ TB ∧ Cond.selects RX5 mi_X5_tell.1 mi_X5_tell.1 ∈ TB := ⟨tb7 (i := 48) (by decide +kernel) rfl, sel5 (i := 4) (by decide +kernel)⟩
abbrev cX5_file : ByteArray := prog_7_method_11_code
def yX5_file : MethodName := ⟨RX5, "file", "(III)I"⟩
abbrev mi_X5_file : Mi := (yX5_file, cX5_file, 5, (some .int))
def iX5_file_0 : List (Nat × Instr × Nat) := [(0, .aload_n 0, 1), (1, .getfield 38, 3), (4, .istore 4, 2), (6, .aload_n 0, 1), (7, .getfield 9, 3), (10, .iload 4, 2), (12, .iload_n 1, 1), (13, .invokestatic 77, 3), (16, .aload_n 0, 1), (17, .getfield 15, 3), (20, .iload 4, 2), (22, .iload_n 2, 1), (23, .invokestatic 77, 3), (26, .aload_n 0, 1), (27, .getfield 18, 3), (30, .iload 4, 2), (32, .iload_n 3, 1), (33, .invokestatic 77, 3), (36, .aload_n 0, 1), (37, .getfield 21, 3), (40, .iload 4, 2), (42, .aload_n 0, 1), (43, .getfield 30, 3), (46, .invokestatic 77, 3), (49, .aload_n 0, 1), (50, .getfield 24, 3), (53, .iload 4, 2), (55, .iconst 0, 1), (56, .invokestatic 77, 3), (59, .aload_n 0, 1), (60, .getfield 27, 3), (63, .iload 4, 2), (65, .iconst 0, 1), (66, .invokestatic 77, 3), (69, .aload_n 0, 1), (70, .dup, 1), (71, .getfield 38, 3), (74, .iconst 1, 1), (75, .iadd, 1), (76, .putfield 38, 3), (79, .iload 4, 2), (81, .ireturn, 1)]
theorem kX5_file_0 : ckI cX5_file iX5_file_0 = true := by decide +kernel
theorem my_X5_file : MY mi_X5_file 3 := ⟨tb7 (i := 30) (by decide +kernel) rfl, tb1 (i := 11) (by decide +kernel) rfl, by decide, by decide +kernel, by decide +kernel, by decide +kernel⟩
theorem vs_X5_file : Cond.instanceMethod mi_X5_file.1 ∈ TB ∧ Cond.selects RX5 mi_X5_file.1 mi_X5_file.1 ∈ TB := ⟨tb7 (i := 29) (by decide +kernel) rfl, sel5 (i := 0) (by decide +kernel)⟩
abbrev cX6_init : ByteArray := prog_8_method_1_code
def yX6_init : MethodName := ⟨RX6, "<init>", "()V"⟩
abbrev mi_X6_init : Mi := (yX6_init, cX6_init, 1, none)
def iX6_init_0 : List (Nat × Instr × Nat) := [(0, .aload_n 0, 1), (1, .invokespecial 3, 3), (4, .aload_n 0, 1), (5, .sipush 256, 3), (8, .newarray .int, 2), (10, .putfield 9, 3), (13, .aload_n 0, 1), (14, .sipush 256, 3), (17, .newarray .int, 2), (19, .putfield 15, 3), (22, .aload_n 0, 1), (23, .sipush 256, 3), (26, .newarray .int, 2), (28, .putfield 18, 3), (31, .aload_n 0, 1), (32, .sipush 256, 3), (35, .newarray .long, 2), (37, .putfield 21, 3), (40, .aload_n 0, 1), (41, .sipush 256, 3), (44, .newarray .int, 2), (46, .putfield 25, 3), (49, .return_, 1)]
theorem kX6_init_0 : ckI cX6_init iX6_init_0 = true := by decide +kernel
theorem my_X6_init : MY mi_X6_init 0 := ⟨tb2 (i := 234) (by decide +kernel) rfl, tb1 (i := 16) (by decide +kernel) rfl, by decide, by decide +kernel, by decide +kernel, by decide +kernel⟩
theorem is_X6_init : mi_X6_init.1.name = "<init>" ∧ Cond.instanceMethod mi_X6_init.1 ∈ TB := ⟨rfl, tb2 (i := 233) (by decide +kernel) rfl⟩
abbrev cX6_clear : ByteArray := prog_8_method_2_code
def yX6_clear : MethodName := ⟨RX6, "clear", "()V"⟩
abbrev mi_X6_clear : Mi := (yX6_clear, cX6_clear, 1, none)
def iX6_clear_0 : List (Nat × Instr × Nat) := [(0, .aload_n 0, 1), (1, .iconst 0, 1), (2, .putfield 28, 3), (5, .aload_n 0, 1), (6, .getfield 25, 3), (9, .invokestatic 32, 3), (12, .return_, 1)]
theorem kX6_clear_0 : ckI cX6_clear iX6_clear_0 = true := by decide +kernel
theorem my_X6_clear : MY mi_X6_clear 0 := ⟨tb7 (i := 172) (by decide +kernel) rfl, tb1 (i := 16) (by decide +kernel) rfl, by decide, by decide +kernel, by decide +kernel, by decide +kernel⟩
theorem vs_X6_clear : Cond.instanceMethod mi_X6_clear.1 ∈ TB ∧ Cond.selects RX6 mi_X6_clear.1 mi_X6_clear.1 ∈ TB := ⟨tb7 (i := 171) (by decide +kernel) rfl, sel6 (i := 11) (by decide +kernel)⟩
abbrev cX6_enter : ByteArray := prog_8_method_3_code
def yX6_enter : MethodName := ⟨RX6, "enter", "(III)V"⟩
abbrev mi_X6_enter : Mi := (yX6_enter, cX6_enter, 5, none)
def iX6_enter_0 : List (Nat × Instr × Nat) := [(0, .aload_n 0, 1), (1, .getfield 25, 3), (4, .iload_n 1, 1), (5, .invokestatic 36, 3), (8, .iconst 1, 1), (9, .isub, 1), (10, .istore 4, 2), (12, .iload 4, 2), (14, .ifCond .ge 71, 3), (17, .aload_n 0, 1), (18, .getfield 28, 3), (21, .istore 4, 2), (23, .aload_n 0, 1), (24, .dup, 1), (25, .getfield 28, 3), (28, .iconst 1, 1), (29, .iadd, 1), (30, .putfield 28, 3), (33, .aload_n 0, 1), (34, .getfield 25, 3), (37, .iload_n 1, 1), (38, .aload_n 0, 1), (39, .getfield 28, 3), (42, .invokestatic 40, 3), (45, .aload_n 0, 1), (46, .getfield 9, 3), (49, .iload 4, 2), (51, .iload_n 1, 1), (52, .invokestatic 40, 3), (55, .aload_n 0, 1), (56, .getfield 18, 3), (59, .iload 4, 2), (61, .iload_n 2, 1), (62, .invokestatic 40, 3), (65, .aload_n 0, 1), (66, .getfield 15, 3), (69, .iload 4, 2), (71, .iconst 0, 1), (72, .invokestatic 40, 3), (75, .aload_n 0, 1), (76, .getfield 21, 3), (79, .iload 4, 2), (81, .lconst 0, 1), (82, .invokestatic 44, 3), (85, .aload_n 0, 1), (86, .getfield 15, 3), (89, .iload 4, 2), (91, .aload_n 0, 1), (92, .getfield 15, 3), (95, .iload 4, 2), (97, .invokestatic 36, 3), (100, .iconst 1, 1), (101, .iadd, 1), (102, .invokestatic 40, 3), (105, .aload_n 0, 1), (106, .getfield 21, 3), (109, .iload 4, 2), (111, .aload_n 0, 1), (112, .getfield 21, 3), (115, .iload 4, 2), (117, .invokestatic 48, 3), (120, .iload_n 3, 1), (121, .i2l, 1), (122, .ladd, 1)]
theorem kX6_enter_0 : ckI cX6_enter iX6_enter_0 = true := by decide +kernel
def iX6_enter_1 : List (Nat × Instr × Nat) := [(123, .invokestatic 44, 3), (126, .return_, 1)]
theorem kX6_enter_1 : ckI cX6_enter iX6_enter_1 = true := by decide +kernel
theorem my_X6_enter : MY mi_X6_enter 3 := ⟨tb7 (i := 186) (by decide +kernel) rfl, tb1 (i := 16) (by decide +kernel) rfl, by decide, by decide +kernel, by decide +kernel, by decide +kernel⟩
theorem vs_X6_enter : Cond.instanceMethod mi_X6_enter.1 ∈ TB ∧ Cond.selects RX6 mi_X6_enter.1 mi_X6_enter.1 ∈ TB := ⟨tb7 (i := 185) (by decide +kernel) rfl, sel6 (i := 14) (by decide +kernel)⟩
abbrev cX7_init : ByteArray := prog_9_method_1_code
def yX7_init : MethodName := ⟨RX7, "<init>", "()V"⟩
abbrev mi_X7_init : Mi := (yX7_init, cX7_init, 1, none)
def iX7_init_0 : List (Nat × Instr × Nat) := [(0, .aload_n 0, 1), (1, .invokespecial 3, 3), (4, .aload_n 0, 1), (5, .sipush 480, 3), (8, .newarray .int, 2), (10, .putfield 9, 3), (13, .return_, 1)]
theorem kX7_init_0 : ckI cX7_init iX7_init_0 = true := by decide +kernel
theorem my_X7_init : MY mi_X7_init 0 := ⟨tb1 (i := 54) (by decide +kernel) rfl, tb1 (i := 2) (by decide +kernel) rfl, by decide, by decide +kernel, by decide +kernel, by decide +kernel⟩
theorem is_X7_init : mi_X7_init.1.name = "<init>" ∧ Cond.instanceMethod mi_X7_init.1 ∈ TB := ⟨rfl, tb1 (i := 53) (by decide +kernel) rfl⟩
abbrev cX7_take : ByteArray := prog_9_method_2_code
def yX7_take : MethodName := ⟨RX7, "take", "(I)Z"⟩
abbrev mi_X7_take : Mi := (yX7_take, cX7_take, 3, (some .boolean))
def iX7_take_0 : List (Nat × Instr × Nat) := [(0, .aload_n 0, 1), (1, .getfield 15, 3), (4, .iconst 4, 1), (5, .iadd, 1), (6, .sipush 480, 3), (9, .if_icmp .le 5, 3), (12, .iconst 0, 1), (13, .ireturn, 1), (14, .iconst 0, 1), (15, .istore_n 2, 1), (16, .iload_n 2, 1), (17, .iconst 4, 1), (18, .if_icmp .ge 35, 3), (21, .aload_n 0, 1), (22, .getfield 9, 3), (25, .aload_n 0, 1), (26, .getfield 15, 3), (29, .iload_n 2, 1), (30, .iadd, 1), (31, .iload_n 1, 1), (32, .bipush 24, 2), (34, .bipush 8, 2), (36, .iload_n 2, 1), (37, .imul, 1), (38, .isub, 1), (39, .iushr, 1), (40, .sipush 255, 3), (43, .iand, 1), (44, .invokestatic 19, 3), (47, .iinc 2 1, 3), (50, .goto (-34), 3), (53, .aload_n 0, 1), (54, .dup, 1), (55, .getfield 15, 3), (58, .iconst 4, 1), (59, .iadd, 1), (60, .putfield 15, 3), (63, .iconst 1, 1), (64, .ireturn, 1)]
theorem kX7_take_0 : ckI cX7_take iX7_take_0 = true := by decide +kernel
theorem my_X7_take : MY mi_X7_take 1 := ⟨tb6 (i := 74) (by decide +kernel) rfl, tb1 (i := 2) (by decide +kernel) rfl, by decide, by decide +kernel, by decide +kernel, by decide +kernel⟩
theorem vs_X7_take : Cond.instanceMethod mi_X7_take.1 ∈ TB ∧ Cond.selects RX7 mi_X7_take.1 mi_X7_take.1 ∈ TB := ⟨tb6 (i := 73) (by decide +kernel) rfl, sel3 (i := 0) (by decide +kernel)⟩
abbrev cX7_cut : ByteArray := prog_9_method_3_code
def yX7_cut : MethodName := ⟨RX7, "cut", "(I)Z"⟩
abbrev mi_X7_cut : Mi := (yX7_cut, cX7_cut, 2, (some .boolean))
def iX7_cut_0 : List (Nat × Instr × Nat) := [(0, .iload_n 1, 1), (1, .ifCond .lt 11, 3), (4, .iload_n 1, 1), (5, .aload_n 0, 1), (6, .getfield 15, 3), (9, .if_icmp .le 5, 3), (12, .iconst 0, 1), (13, .ireturn, 1), (14, .aload_n 0, 1), (15, .iload_n 1, 1), (16, .putfield 15, 3), (19, .iconst 1, 1), (20, .ireturn, 1)]
theorem kX7_cut_0 : ckI cX7_cut iX7_cut_0 = true := by decide +kernel
theorem my_X7_cut : MY mi_X7_cut 1 := ⟨tb6 (i := 65) (by decide +kernel) rfl, tb1 (i := 2) (by decide +kernel) rfl, by decide, by decide +kernel, by decide +kernel, by decide +kernel⟩
theorem vs_X7_cut : Cond.instanceMethod mi_X7_cut.1 ∈ TB ∧ Cond.selects RX7 mi_X7_cut.1 mi_X7_cut.1 ∈ TB := ⟨tb6 (i := 64) (by decide +kernel) rfl, sel2 (i := 15) (by decide +kernel)⟩
abbrev cX7_read : ByteArray := prog_9_method_4_code
def yX7_read : MethodName := ⟨RX7, "read", "(I)I"⟩
abbrev mi_X7_read : Mi := (yX7_read, cX7_read, 2, (some .int))
def iX7_read_0 : List (Nat × Instr × Nat) := [(0, .iload_n 1, 1), (1, .aload_n 0, 1), (2, .getfield 15, 3), (5, .if_icmp .ge 14, 3), (8, .aload_n 0, 1), (9, .getfield 9, 3), (12, .iload_n 1, 1), (13, .invokestatic 23, 3), (16, .goto 4, 3), (19, .iconst 0, 1), (20, .ireturn, 1)]
theorem kX7_read_0 : ckI cX7_read iX7_read_0 = true := by decide +kernel
theorem my_X7_read : MY mi_X7_read 1 := ⟨tb6 (i := 87) (by decide +kernel) rfl, tb1 (i := 2) (by decide +kernel) rfl, by decide, by decide +kernel, by decide +kernel, by decide +kernel⟩
theorem vs_X7_read : Cond.instanceMethod mi_X7_read.1 ∈ TB ∧ Cond.selects RX7 mi_X7_read.1 mi_X7_read.1 ∈ TB := ⟨tb6 (i := 86) (by decide +kernel) rfl, sel3 (i := 2) (by decide +kernel)⟩
abbrev cX8_init : ByteArray := prog_10_method_1_code
def yX8_init : MethodName := ⟨RX8, "<init>", "()V"⟩
abbrev mi_X8_init : Mi := (yX8_init, cX8_init, 2, none)
def iX8_init_0 : List (Nat × Instr × Nat) := [(0, .aload_n 0, 1), (1, .invokespecial 3, 3), (4, .aload_n 0, 1), (5, .sipush 481, 3), (8, .newarray .int, 2), (10, .putfield 9, 3), (13, .aload_n 0, 1), (14, .sipush 481, 3), (17, .newarray .int, 2), (19, .putfield 15, 3), (22, .aload_n 0, 1), (23, .sipush 481, 3), (26, .newarray .int, 2), (28, .putfield 18, 3), (31, .aload_n 0, 1), (32, .bipush 11, 2), (34, .newarray .int, 2), (36, .putfield 21, 3), (39, .iconst 0, 1), (40, .istore_n 1, 1), (41, .iload_n 1, 1), (42, .bipush 11, 2), (44, .if_icmp .ge 21, 3), (47, .aload_n 0, 1), (48, .getfield 21, 3), (51, .iload_n 1, 1), (52, .iload_n 1, 1), (53, .invokestatic 24, 3), (56, .invokestatic 28, 3), (59, .iinc 1 1, 3), (62, .goto (-21), 3), (65, .return_, 1)]
theorem kX8_init_0 : ckI cX8_init iX8_init_0 = true := by decide +kernel
theorem my_X8_init : MY mi_X8_init 0 := ⟨tb1 (i := 70) (by decide +kernel) rfl, tb1 (i := 3) (by decide +kernel) rfl, by decide, by decide +kernel, by decide +kernel, by decide +kernel⟩
theorem is_X8_init : mi_X8_init.1.name = "<init>" ∧ Cond.instanceMethod mi_X8_init.1 ∈ TB := ⟨rfl, tb1 (i := 69) (by decide +kernel) rfl⟩
abbrev cX8_reservedLetters : ByteArray := prog_10_method_2_code
def yX8_reservedLetters : MethodName := ⟨RX8, "reservedLetters", "(I)I"⟩
abbrev mi_X8_reservedLetters : Mi := (yX8_reservedLetters, cX8_reservedLetters, 5, (some .int))
def iX8_reservedLetters_0 : List (Nat × Instr × Nat) := [(0, .iconst 0, 1), (1, .istore_n 1, 1), (2, .iconst 0, 1), (3, .istore_n 2, 1), (4, .iload_n 2, 1), (5, .bipush 6, 2), (7, .if_icmp .ge 52, 3), (10, .iload_n 0, 1), (11, .bipush 6, 2), (13, .imul, 1), (14, .iload_n 2, 1), (15, .iadd, 1), (16, .istore_n 3, 1), (17, .iload_n 3, 1), (18, .ldc 32, 2), (20, .invokevirtual 34, 3), (23, .if_icmp .ge 12, 3), (26, .ldc 32, 2), (28, .iload_n 3, 1), (29, .invokevirtual 40, 3), (32, .goto 5, 3), (35, .bipush 32, 2), (37, .istore 4, 2), (39, .iload 4, 2), (41, .bipush 32, 2), (43, .if_icmp .eq 10, 3), (46, .iload_n 1, 1), (47, .iload 4, 2), (49, .invokestatic 44, 3), (52, .istore_n 1, 1), (53, .iinc 2 1, 3), (56, .goto (-52), 3), (59, .iload_n 1, 1), (60, .ireturn, 1)]
theorem kX8_reservedLetters_0 : ckI cX8_reservedLetters iX8_reservedLetters_0 = true := by decide +kernel
theorem my_X8_reservedLetters : MY mi_X8_reservedLetters 1 := ⟨tb1 (i := 74) (by decide +kernel) rfl, tb1 (i := 3) (by decide +kernel) rfl, by decide, by decide +kernel, by decide +kernel, by decide +kernel⟩
theorem st_X8_reservedLetters : Cond.static mi_X8_reservedLetters.1 ∈ TB := tb1 (i := 73) (by decide +kernel) rfl
abbrev cX8_withLetter : ByteArray := prog_10_method_3_code
def yX8_withLetter : MethodName := ⟨RX8, "withLetter", "(II)I"⟩
abbrev mi_X8_withLetter : Mi := (yX8_withLetter, cX8_withLetter, 2, (some .int))
def iX8_withLetter_0 : List (Nat × Instr × Nat) := [(0, .iload_n 0, 1), (1, .iconst 5, 1), (2, .ishl, 1), (3, .iload_n 1, 1), (4, .bipush 97, 2), (6, .isub, 1), (7, .iconst 1, 1), (8, .iadd, 1), (9, .ior, 1), (10, .ireturn, 1)]
theorem kX8_withLetter_0 : ckI cX8_withLetter iX8_withLetter_0 = true := by decide +kernel
theorem my_X8_withLetter : MY mi_X8_withLetter 2 := ⟨tb1 (i := 126) (by decide +kernel) rfl, tb1 (i := 3) (by decide +kernel) rfl, by decide, by decide +kernel, by decide +kernel, by decide +kernel⟩
theorem st_X8_withLetter : Cond.static mi_X8_withLetter.1 ∈ TB := tb1 (i := 125) (by decide +kernel) rfl
abbrev cX8_split : ByteArray := prog_10_method_4_code
def yX8_split : MethodName := ⟨RX8, "split", "(LStruckCounts$Text;)V"⟩
abbrev mi_X8_split : Mi := (yX8_split, cX8_split, 5, none)
def iX8_split_0 : List (Nat × Instr × Nat) := [(0, .aload_n 0, 1), (1, .iconst 0, 1), (2, .putfield 48, 3), (5, .iconst 0, 1), (6, .istore_n 2, 1), (7, .iconst 0, 1), (8, .istore_n 3, 1), (9, .iload_n 3, 1), (10, .sipush 480, 3), (13, .if_icmp .ge 53, 3), (16, .iload_n 2, 1), (17, .aload_n 1, 1), (18, .getfield 52, 3), (21, .if_icmp .ge 45, 3), (24, .aload_n 1, 1), (25, .iload_n 2, 1), (26, .invokevirtual 55, 3), (29, .istore 4, 2), (31, .iload 4, 2), (33, .bipush 10, 2), (35, .if_icmp .eq 10, 3), (38, .iload 4, 2), (40, .bipush 32, 2), (42, .if_icmp .ne 9, 3), (45, .iinc 2 1, 3), (48, .goto 12, 3), (51, .aload_n 0, 1), (52, .aload_n 1, 1), (53, .iload_n 2, 1), (54, .iload 4, 2), (56, .invokevirtual 58, 3), (59, .istore_n 2, 1), (60, .iinc 3 1, 3), (63, .goto (-54), 3), (66, .aload_n 0, 1), (67, .iconst 0, 1), (68, .aload_n 1, 1), (69, .getfield 52, 3), (72, .iconst 0, 1), (73, .invokevirtual 62, 3), (76, .return_, 1)]
theorem kX8_split_0 : ckI cX8_split iX8_split_0 = true := by decide +kernel
theorem my_X8_split : MY mi_X8_split 1 := ⟨tb6 (i := 83) (by decide +kernel) rfl, tb1 (i := 3) (by decide +kernel) rfl, by decide, by decide +kernel, by decide +kernel, by decide +kernel⟩
theorem vs_X8_split : Cond.instanceMethod mi_X8_split.1 ∈ TB ∧ Cond.selects RX8 mi_X8_split.1 mi_X8_split.1 ∈ TB := ⟨tb6 (i := 82) (by decide +kernel) rfl, sel3 (i := 1) (by decide +kernel)⟩
abbrev cX8_cutOne : ByteArray := prog_10_method_5_code
def yX8_cutOne : MethodName := ⟨RX8, "cutOne", "(LStruckCounts$Text;II)I"⟩
abbrev mi_X8_cutOne : Mi := (yX8_cutOne, cX8_cutOne, 5, (some .int))
def iX8_cutOne_0 : List (Nat × Instr × Nat) := [(0, .iload_n 3, 1), (1, .bipush 97, 2), (3, .if_icmp .lt 31, 3), (6, .iload_n 3, 1), (7, .bipush 122, 2), (9, .if_icmp .gt 25, 3), (12, .aload_n 1, 1), (13, .iload_n 2, 1), (14, .bipush 97, 2), (16, .bipush 122, 2), (18, .invokestatic 66, 3), (21, .istore 4, 2), (23, .aload_n 0, 1), (24, .aload_n 1, 1), (25, .iload_n 2, 1), (26, .iload 4, 2), (28, .invokevirtual 70, 3), (31, .iload 4, 2), (33, .ireturn, 1), (34, .iload_n 3, 1), (35, .bipush 48, 2), (37, .if_icmp .lt 31, 3), (40, .iload_n 3, 1), (41, .bipush 57, 2), (43, .if_icmp .gt 25, 3), (46, .aload_n 1, 1), (47, .iload_n 2, 1), (48, .bipush 48, 2), (50, .bipush 57, 2), (52, .invokestatic 66, 3), (55, .istore 4, 2), (57, .aload_n 0, 1), (58, .aload_n 1, 1), (59, .iload_n 2, 1), (60, .iload 4, 2), (62, .invokevirtual 74, 3), (65, .iload 4, 2), (67, .ireturn, 1), (68, .ldc 77, 2), (70, .iload_n 3, 1), (71, .i2c, 1), (72, .invokevirtual 79, 3), (75, .ifCond .lt 7, 3), (78, .iconst 1, 1), (79, .goto 4, 3), (82, .iconst 0, 1), (83, .istore 4, 2), (85, .aload_n 0, 1), (86, .iload 4, 2), (88, .ifCond .eq 7, 3), (91, .iload_n 3, 1), (92, .goto 4, 3), (95, .iconst 1, 1), (96, .iload_n 2, 1), (97, .iconst 0, 1), (98, .invokevirtual 62, 3), (101, .iload_n 2, 1), (102, .iconst 1, 1), (103, .iadd, 1), (104, .ireturn, 1)]
theorem kX8_cutOne_0 : ckI cX8_cutOne iX8_cutOne_0 = true := by decide +kernel
theorem my_X8_cutOne : MY mi_X8_cutOne 3 := ⟨tb6 (i := 92) (by decide +kernel) rfl, tb1 (i := 3) (by decide +kernel) rfl, by decide, by decide +kernel, by decide +kernel, by decide +kernel⟩
theorem vs_X8_cutOne : Cond.instanceMethod mi_X8_cutOne.1 ∈ TB ∧ Cond.selects RX8 mi_X8_cutOne.1 mi_X8_cutOne.1 ∈ TB := ⟨tb6 (i := 91) (by decide +kernel) rfl, sel3 (i := 3) (by decide +kernel)⟩
abbrev cX8_runEnd : ByteArray := prog_10_method_6_code
def yX8_runEnd : MethodName := ⟨RX8, "runEnd", "(LStruckCounts$Text;III)I"⟩
abbrev mi_X8_runEnd : Mi := (yX8_runEnd, cX8_runEnd, 7, (some .int))
def iX8_runEnd_0 : List (Nat × Instr × Nat) := [(0, .iload_n 1, 1), (1, .istore 4, 2), (3, .iload_n 1, 1), (4, .istore 5, 2), (6, .iload 5, 2), (8, .aload_n 0, 1), (9, .getfield 52, 3), (12, .if_icmp .ge 38, 3), (15, .aload_n 0, 1), (16, .iload 5, 2), (18, .invokevirtual 55, 3), (21, .istore 6, 2), (23, .iload 6, 2), (25, .iload_n 2, 1), (26, .if_icmp .lt 24, 3), (29, .iload 6, 2), (31, .iload_n 3, 1), (32, .if_icmp .le 6, 3), (35, .goto 15, 3), (38, .iload 5, 2), (40, .iconst 1, 1), (41, .iadd, 1), (42, .istore 4, 2), (44, .iinc 5 1, 3), (47, .goto (-41), 3), (50, .iload 4, 2), (52, .ireturn, 1)]
theorem kX8_runEnd_0 : ckI cX8_runEnd iX8_runEnd_0 = true := by decide +kernel
theorem my_X8_runEnd : MY mi_X8_runEnd 4 := ⟨tb6 (i := 95) (by decide +kernel) rfl, tb1 (i := 3) (by decide +kernel) rfl, by decide, by decide +kernel, by decide +kernel, by decide +kernel⟩
theorem st_X8_runEnd : Cond.static mi_X8_runEnd.1 ∈ TB := tb6 (i := 94) (by decide +kernel) rfl
abbrev cX8_noteWord : ByteArray := prog_10_method_7_code
def yX8_noteWord : MethodName := ⟨RX8, "noteWord", "(LStruckCounts$Text;II)V"⟩
abbrev mi_X8_noteWord : Mi := (yX8_noteWord, cX8_noteWord, 7, none)
def iX8_noteWord_0 : List (Nat × Instr × Nat) := [(0, .iload_n 3, 1), (1, .iload_n 2, 1), (2, .isub, 1), (3, .bipush 6, 2), (5, .if_icmp .le 11, 3), (8, .aload_n 0, 1), (9, .iconst 1, 1), (10, .iload_n 2, 1), (11, .iconst 0, 1), (12, .invokevirtual 62, 3), (15, .return_, 1), (16, .iconst 0, 1), (17, .istore 4, 2), (19, .iload_n 2, 1), (20, .istore 5, 2), (22, .iload 5, 2), (24, .iload_n 3, 1), (25, .if_icmp .ge 22, 3), (28, .iload 4, 2), (30, .aload_n 1, 1), (31, .iload 5, 2), (33, .invokevirtual 55, 3), (36, .invokestatic 44, 3), (39, .istore 4, 2), (41, .iinc 5 1, 3), (44, .goto (-22), 3), (47, .iconst 2, 1), (48, .istore 5, 2), (50, .iconst 0, 1), (51, .istore 6, 2), (53, .iload 6, 2), (55, .bipush 11, 2), (57, .if_icmp .ge 31, 3), (60, .aload_n 0, 1), (61, .getfield 21, 3), (64, .iload 6, 2), (66, .invokestatic 82, 3), (69, .iload 4, 2), (71, .if_icmp .ne 11, 3), (74, .sipush 256, 3), (77, .iload 6, 2), (79, .iadd, 1), (80, .istore 5, 2), (82, .iinc 6 1, 3), (85, .goto (-32), 3), (88, .aload_n 0, 1), (89, .iload 5, 2), (91, .iload_n 2, 1), (92, .iload 4, 2), (94, .invokevirtual 62, 3), (97, .return_, 1)]
theorem kX8_noteWord_0 : ckI cX8_noteWord iX8_noteWord_0 = true := by decide +kernel
theorem my_X8_noteWord : MY mi_X8_noteWord 3 := ⟨tb6 (i := 99) (by decide +kernel) rfl, tb1 (i := 3) (by decide +kernel) rfl, by decide, by decide +kernel, by decide +kernel, by decide +kernel⟩
theorem vs_X8_noteWord : Cond.instanceMethod mi_X8_noteWord.1 ∈ TB ∧ Cond.selects RX8 mi_X8_noteWord.1 mi_X8_noteWord.1 ∈ TB := ⟨tb6 (i := 98) (by decide +kernel) rfl, sel3 (i := 4) (by decide +kernel)⟩
abbrev cX8_noteNumber : ByteArray := prog_10_method_8_code
def yX8_noteNumber : MethodName := ⟨RX8, "noteNumber", "(LStruckCounts$Text;II)V"⟩
abbrev mi_X8_noteNumber : Mi := (yX8_noteNumber, cX8_noteNumber, 6, none)
def iX8_noteNumber_0 : List (Nat × Instr × Nat) := [(0, .iload_n 3, 1), (1, .iload_n 2, 1), (2, .isub, 1), (3, .iconst 3, 1), (4, .if_icmp .le 11, 3), (7, .aload_n 0, 1), (8, .iconst 1, 1), (9, .iload_n 2, 1), (10, .iconst 0, 1), (11, .invokevirtual 62, 3), (14, .return_, 1), (15, .iconst 0, 1), (16, .istore 4, 2), (18, .iload_n 2, 1), (19, .istore 5, 2), (21, .iload 5, 2), (23, .iload_n 3, 1), (24, .if_icmp .ge 26, 3), (27, .iload 4, 2), (29, .bipush 10, 2), (31, .imul, 1), (32, .aload_n 1, 1), (33, .iload 5, 2), (35, .invokevirtual 55, 3), (38, .iadd, 1), (39, .bipush 48, 2), (41, .isub, 1), (42, .istore 4, 2), (44, .iinc 5 1, 3), (47, .goto (-26), 3), (50, .aload_n 0, 1), (51, .iconst 3, 1), (52, .iload_n 2, 1), (53, .iload 4, 2), (55, .invokevirtual 62, 3), (58, .return_, 1)]
theorem kX8_noteNumber_0 : ckI cX8_noteNumber iX8_noteNumber_0 = true := by decide +kernel
theorem my_X8_noteNumber : MY mi_X8_noteNumber 3 := ⟨tb6 (i := 108) (by decide +kernel) rfl, tb1 (i := 3) (by decide +kernel) rfl, by decide, by decide +kernel, by decide +kernel, by decide +kernel⟩
theorem vs_X8_noteNumber : Cond.instanceMethod mi_X8_noteNumber.1 ∈ TB ∧ Cond.selects RX8 mi_X8_noteNumber.1 mi_X8_noteNumber.1 ∈ TB := ⟨tb6 (i := 107) (by decide +kernel) rfl, sel3 (i := 6) (by decide +kernel)⟩
abbrev cX8_note : ByteArray := prog_10_method_9_code
def yX8_note : MethodName := ⟨RX8, "note", "(III)V"⟩
abbrev mi_X8_note : Mi := (yX8_note, cX8_note, 4, none)
def iX8_note_0 : List (Nat × Instr × Nat) := [(0, .aload_n 0, 1), (1, .getfield 9, 3), (4, .aload_n 0, 1), (5, .getfield 48, 3), (8, .iload_n 1, 1), (9, .invokestatic 28, 3), (12, .aload_n 0, 1), (13, .getfield 15, 3), (16, .aload_n 0, 1), (17, .getfield 48, 3), (20, .iload_n 2, 1), (21, .invokestatic 28, 3), (24, .aload_n 0, 1), (25, .getfield 18, 3), (28, .aload_n 0, 1), (29, .getfield 48, 3), (32, .iload_n 3, 1), (33, .invokestatic 28, 3), (36, .aload_n 0, 1), (37, .dup, 1), (38, .getfield 48, 3), (41, .iconst 1, 1), (42, .iadd, 1), (43, .putfield 48, 3), (46, .return_, 1)]
theorem kX8_note_0 : ckI cX8_note iX8_note_0 = true := by decide +kernel
theorem my_X8_note : MY mi_X8_note 3 := ⟨tb6 (i := 103) (by decide +kernel) rfl, tb1 (i := 3) (by decide +kernel) rfl, by decide, by decide +kernel, by decide +kernel, by decide +kernel⟩
theorem vs_X8_note : Cond.instanceMethod mi_X8_note.1 ∈ TB ∧ Cond.selects RX8 mi_X8_note.1 mi_X8_note.1 ∈ TB := ⟨tb6 (i := 102) (by decide +kernel) rfl, sel3 (i := 5) (by decide +kernel)⟩
abbrev cX9_init : ByteArray := prog_11_method_1_code
def yX9_init : MethodName := ⟨RX9, "<init>", "()V"⟩
abbrev mi_X9_init : Mi := (yX9_init, cX9_init, 2, none)
def iX9_init_0 : List (Nat × Instr × Nat) := [(0, .aload_n 0, 1), (1, .invokespecial 3, 3), (4, .aload_n 0, 1), (5, .sipush 256, 3), (8, .newarray .int, 2), (10, .putfield 9, 3), (13, .aload_n 0, 1), (14, .sipush 256, 3), (17, .newarray .int, 2), (19, .putfield 15, 3), (22, .aload_n 0, 1), (23, .sipush 6561, 3), (26, .newarray .int, 2), (28, .putfield 18, 3), (31, .aload_n 0, 1), (32, .sipush 6561, 3), (35, .newarray .int, 2), (37, .putfield 21, 3), (40, .iconst 1, 1), (41, .istore_n 1, 1), (42, .iload_n 1, 1), (43, .sipush 256, 3), (46, .if_icmp .ge 33, 3), (49, .aload_n 0, 1), (50, .getfield 9, 3), (53, .iload_n 1, 1), (54, .aload_n 0, 1), (55, .getfield 9, 3), (58, .iload_n 1, 1), (59, .iconst 1, 1), (60, .ishr, 1), (61, .invokestatic 24, 3), (64, .iconst 3, 1), (65, .imul, 1), (66, .iload_n 1, 1), (67, .iconst 1, 1), (68, .iand, 1), (69, .iadd, 1), (70, .invokestatic 28, 3), (73, .iinc 1 1, 3), (76, .goto (-34), 3), (79, .return_, 1)]
theorem kX9_init_0 : ckI cX9_init iX9_init_0 = true := by decide +kernel
theorem my_X9_init : MY mi_X9_init 0 := ⟨tb2 (i := 183) (by decide +kernel) rfl, tb1 (i := 14) (by decide +kernel) rfl, by decide, by decide +kernel, by decide +kernel, by decide +kernel⟩
theorem is_X9_init : mi_X9_init.1.name = "<init>" ∧ Cond.instanceMethod mi_X9_init.1 ∈ TB := ⟨rfl, tb2 (i := 182) (by decide +kernel) rfl⟩
abbrev cX9_node : ByteArray := prog_11_method_2_code
def yX9_node : MethodName := ⟨RX9, "node", "(II)I"⟩
abbrev mi_X9_node : Mi := (yX9_node, cX9_node, 3, (some .int))
def iX9_node_0 : List (Nat × Instr × Nat) := [(0, .aload_n 0, 1), (1, .getfield 9, 3), (4, .iload_n 1, 1), (5, .invokestatic 24, 3), (8, .aload_n 0, 1), (9, .getfield 9, 3), (12, .iload_n 2, 1), (13, .invokestatic 24, 3), (16, .iadd, 1), (17, .ireturn, 1)]
theorem kX9_node_0 : ckI cX9_node iX9_node_0 = true := by decide +kernel
theorem my_X9_node : MY mi_X9_node 2 := ⟨tb8 (i := 148) (by decide +kernel) rfl, tb1 (i := 14) (by decide +kernel) rfl, by decide, by decide +kernel, by decide +kernel, by decide +kernel⟩
theorem vs_X9_node : Cond.instanceMethod mi_X9_node.1 ∈ TB ∧ Cond.selects RX9 mi_X9_node.1 mi_X9_node.1 ∈ TB := ⟨tb8 (i := 147) (by decide +kernel) rfl, sel8 (i := 9) (by decide +kernel)⟩
abbrev cX9_markOf : ByteArray := prog_11_method_3_code
def yX9_markOf : MethodName := ⟨RX9, "markOf", "(II)I"⟩
abbrev mi_X9_markOf : Mi := (yX9_markOf, cX9_markOf, 3, (some .int))
def iX9_markOf_0 : List (Nat × Instr × Nat) := [(0, .aload_n 0, 1), (1, .getfield 18, 3), (4, .aload_n 0, 1), (5, .iload_n 1, 1), (6, .iload_n 2, 1), (7, .invokevirtual 32, 3), (10, .invokestatic 24, 3), (13, .ireturn, 1)]
theorem kX9_markOf_0 : ckI cX9_markOf iX9_markOf_0 = true := by decide +kernel
theorem my_X9_markOf : MY mi_X9_markOf 2 := ⟨tb9 (i := 64) (by decide +kernel) rfl, tb1 (i := 14) (by decide +kernel) rfl, by decide, by decide +kernel, by decide +kernel, by decide +kernel⟩
theorem vs_X9_markOf : Cond.instanceMethod mi_X9_markOf.1 ∈ TB ∧ Cond.selects RX9 mi_X9_markOf.1 mi_X9_markOf.1 ∈ TB := ⟨tb9 (i := 63) (by decide +kernel) rfl, sel10 (i := 1) (by decide +kernel)⟩
abbrev cX9_value : ByteArray := prog_11_method_4_code
def yX9_value : MethodName := ⟨RX9, "value", "()I"⟩
abbrev mi_X9_value : Mi := (yX9_value, cX9_value, 1, (some .int))
def iX9_value_0 : List (Nat × Instr × Nat) := [(0, .aload_n 0, 1), (1, .getfield 21, 3), (4, .iconst 0, 1), (5, .invokestatic 24, 3), (8, .ireturn, 1)]
theorem kX9_value_0 : ckI cX9_value iX9_value_0 = true := by decide +kernel
theorem my_X9_value : MY mi_X9_value 0 := ⟨tb8 (i := 171) (by decide +kernel) rfl, tb1 (i := 14) (by decide +kernel) rfl, by decide, by decide +kernel, by decide +kernel, by decide +kernel⟩
theorem vs_X9_value : Cond.instanceMethod mi_X9_value.1 ∈ TB ∧ Cond.selects RX9 mi_X9_value.1 mi_X9_value.1 ∈ TB := ⟨tb8 (i := 170) (by decide +kernel) rfl, sel8 (i := 14) (by decide +kernel)⟩
abbrev cX9_setLeaf : ByteArray := prog_11_method_5_code
def yX9_setLeaf : MethodName := ⟨RX9, "setLeaf", "(II)V"⟩
abbrev mi_X9_setLeaf : Mi := (yX9_setLeaf, cX9_setLeaf, 3, none)
def iX9_setLeaf_0 : List (Nat × Instr × Nat) := [(0, .aload_n 0, 1), (1, .getfield 15, 3), (4, .iload_n 1, 1), (5, .iload_n 2, 1), (6, .invokestatic 28, 3), (9, .return_, 1)]
theorem kX9_setLeaf_0 : ckI cX9_setLeaf iX9_setLeaf_0 = true := by decide +kernel
theorem my_X9_setLeaf : MY mi_X9_setLeaf 2 := ⟨tb8 (i := 140) (by decide +kernel) rfl, tb1 (i := 14) (by decide +kernel) rfl, by decide, by decide +kernel, by decide +kernel, by decide +kernel⟩
theorem vs_X9_setLeaf : Cond.instanceMethod mi_X9_setLeaf.1 ∈ TB ∧ Cond.selects RX9 mi_X9_setLeaf.1 mi_X9_setLeaf.1 ∈ TB := ⟨tb8 (i := 139) (by decide +kernel) rfl, sel8 (i := 7) (by decide +kernel)⟩
abbrev cX9_grow : ByteArray := prog_11_method_6_code
def yX9_grow : MethodName := ⟨RX9, "grow", "(II)V"⟩
abbrev mi_X9_grow : Mi := (yX9_grow, cX9_grow, 7, none)
def iX9_grow_0 : List (Nat × Instr × Nat) := [(0, .aload_n 0, 1), (1, .iload_n 1, 1), (2, .putfield 36, 3), (5, .aload_n 0, 1), (6, .getfield 36, 3), (9, .istore_n 3, 1), (10, .iload_n 3, 1), (11, .ifCond .lt 98, 3), (14, .iload_n 3, 1), (15, .istore 4, 2), (17, .iload 4, 2), (19, .ifCond .lt 84, 3), (22, .iload_n 3, 1), (23, .aload_n 0, 1), (24, .getfield 36, 3), (27, .iconst (-1), 1), (28, .ixor, 1), (29, .iand, 1), (30, .ifCond .ne 73, 3), (33, .iload 4, 2), (35, .iload_n 3, 1), (36, .iconst (-1), 1), (37, .ixor, 1), (38, .iand, 1), (39, .ifCond .ne 58, 3), (42, .aload_n 0, 1), (43, .iload_n 3, 1), (44, .iload 4, 2), (46, .invokevirtual 32, 3), (49, .istore 5, 2), (51, .aload_n 0, 1), (52, .getfield 36, 3), (55, .iload_n 3, 1), (56, .iconst (-1), 1), (57, .ixor, 1), (58, .iand, 1), (59, .istore 6, 2), (61, .aload_n 0, 1), (62, .getfield 18, 3), (65, .iload 5, 2), (67, .iload 6, 2), (69, .ifCond .ne 17, 3), (72, .aload_n 0, 1), (73, .getfield 15, 3), (76, .iload 4, 2), (78, .iload_n 2, 1), (79, .ior, 1), (80, .invokestatic 24, 3), (83, .goto 11, 3), (86, .aload_n 0, 1), (87, .iload 5, 2), (89, .iload 6, 2), (91, .invokevirtual 40, 3), (94, .invokestatic 28, 3), (97, .iinc 4 (-1), 3), (100, .goto (-83), 3), (103, .iinc 3 (-1), 3), (106, .goto (-96), 3), (109, .return_, 1)]
theorem kX9_grow_0 : ckI cX9_grow iX9_grow_0 = true := by decide +kernel
theorem my_X9_grow : MY mi_X9_grow 2 := ⟨tb8 (i := 144) (by decide +kernel) rfl, tb1 (i := 14) (by decide +kernel) rfl, by decide, by decide +kernel, by decide +kernel, by decide +kernel⟩
theorem vs_X9_grow : Cond.instanceMethod mi_X9_grow.1 ∈ TB ∧ Cond.selects RX9 mi_X9_grow.1 mi_X9_grow.1 ∈ TB := ⟨tb8 (i := 143) (by decide +kernel) rfl, sel8 (i := 8) (by decide +kernel)⟩
abbrev cX9_markFrom : ByteArray := prog_11_method_7_code
def yX9_markFrom : MethodName := ⟨RX9, "markFrom", "(II)I"⟩
abbrev mi_X9_markFrom : Mi := (yX9_markFrom, cX9_markFrom, 4, (some .int))
def iX9_markFrom_0 : List (Nat × Instr × Nat) := [(0, .aload_n 0, 1), (1, .getfield 9, 3), (4, .iload_n 2, 1), (5, .iload_n 2, 1), (6, .ineg, 1), (7, .iand, 1), (8, .invokestatic 24, 3), (11, .istore_n 3, 1), (12, .aload_n 0, 1), (13, .getfield 18, 3), (16, .iload_n 1, 1), (17, .iload_n 3, 1), (18, .iadd, 1), (19, .invokestatic 24, 3), (22, .aload_n 0, 1), (23, .getfield 18, 3), (26, .iload_n 1, 1), (27, .iconst 2, 1), (28, .iload_n 3, 1), (29, .imul, 1), (30, .iadd, 1), (31, .invokestatic 24, 3), (34, .ior, 1), (35, .ireturn, 1)]
theorem kX9_markFrom_0 : ckI cX9_markFrom iX9_markFrom_0 = true := by decide +kernel
theorem my_X9_markFrom : MY mi_X9_markFrom 2 := ⟨tb8 (i := 152) (by decide +kernel) rfl, tb1 (i := 14) (by decide +kernel) rfl, by decide, by decide +kernel, by decide +kernel, by decide +kernel⟩
theorem vs_X9_markFrom : Cond.instanceMethod mi_X9_markFrom.1 ∈ TB ∧ Cond.selects RX9 mi_X9_markFrom.1 mi_X9_markFrom.1 ∈ TB := ⟨tb8 (i := 151) (by decide +kernel) rfl, sel8 (i := 10) (by decide +kernel)⟩
abbrev cX9_countTrials : ByteArray := prog_11_method_8_code
def yX9_countTrials : MethodName := ⟨RX9, "countTrials", "()V"⟩
abbrev mi_X9_countTrials : Mi := (yX9_countTrials, cX9_countTrials, 4, none)
def iX9_countTrials_0 : List (Nat × Instr × Nat) := [(0, .aload_n 0, 1), (1, .getfield 36, 3), (4, .istore_n 1, 1), (5, .iload_n 1, 1), (6, .ifCond .lt 77, 3), (9, .iload_n 1, 1), (10, .istore_n 2, 1), (11, .iload_n 2, 1), (12, .ifCond .lt 65, 3), (15, .iload_n 1, 1), (16, .aload_n 0, 1), (17, .getfield 36, 3), (20, .iconst (-1), 1), (21, .ixor, 1), (22, .iand, 1), (23, .ifCond .ne 54, 3), (26, .iload_n 2, 1), (27, .iload_n 1, 1), (28, .iconst (-1), 1), (29, .ixor, 1), (30, .iand, 1), (31, .ifCond .ne 40, 3), (34, .aload_n 0, 1), (35, .iload_n 1, 1), (36, .iload_n 2, 1), (37, .invokevirtual 32, 3), (40, .istore_n 3, 1), (41, .aload_n 0, 1), (42, .getfield 21, 3), (45, .iload_n 3, 1), (46, .aload_n 0, 1), (47, .getfield 18, 3), (50, .iload_n 3, 1), (51, .invokestatic 24, 3), (54, .iconst 3, 1), (55, .if_icmp .ne 12, 3), (58, .aload_n 0, 1), (59, .iload_n 1, 1), (60, .iload_n 3, 1), (61, .invokevirtual 43, 3), (64, .goto 4, 3), (67, .iconst 0, 1), (68, .invokestatic 28, 3), (71, .iinc 2 (-1), 3), (74, .goto (-63), 3), (77, .iinc 1 (-1), 3), (80, .goto (-75), 3), (83, .return_, 1)]
theorem kX9_countTrials_0 : ckI cX9_countTrials iX9_countTrials_0 = true := by decide +kernel
theorem my_X9_countTrials : MY mi_X9_countTrials 0 := ⟨tb8 (i := 156) (by decide +kernel) rfl, tb1 (i := 14) (by decide +kernel) rfl, by decide, by decide +kernel, by decide +kernel, by decide +kernel⟩
theorem vs_X9_countTrials : Cond.instanceMethod mi_X9_countTrials.1 ∈ TB ∧ Cond.selects RX9 mi_X9_countTrials.1 mi_X9_countTrials.1 ∈ TB := ⟨tb8 (i := 155) (by decide +kernel) rfl, sel8 (i := 11) (by decide +kernel)⟩
abbrev cX9_fewestTrials : ByteArray := prog_11_method_9_code
def yX9_fewestTrials : MethodName := ⟨RX9, "fewestTrials", "(II)I"⟩
abbrev mi_X9_fewestTrials : Mi := (yX9_fewestTrials, cX9_fewestTrials, 5, (some .int))
def iX9_fewestTrials_0 : List (Nat × Instr × Nat) := [(0, .bipush 8, 2), (2, .istore_n 3, 1), (3, .iconst 0, 1), (4, .istore 4, 2), (6, .iload 4, 2), (8, .bipush 8, 2), (10, .if_icmp .ge 37, 3), (13, .aload_n 0, 1), (14, .getfield 36, 3), (17, .iload_n 1, 1), (18, .iconst (-1), 1), (19, .ixor, 1), (20, .iand, 1), (21, .iload 4, 2), (23, .invokestatic 46, 3), (26, .ifCond .eq 15, 3), (29, .iload_n 3, 1), (30, .aload_n 0, 1), (31, .iload 4, 2), (33, .iload_n 2, 1), (34, .invokevirtual 50, 3), (37, .invokestatic 53, 3), (40, .istore_n 3, 1), (41, .iinc 4 1, 3), (44, .goto (-38), 3), (47, .iload_n 3, 1), (48, .ireturn, 1)]
theorem kX9_fewestTrials_0 : ckI cX9_fewestTrials iX9_fewestTrials_0 = true := by decide +kernel
theorem my_X9_fewestTrials : MY mi_X9_fewestTrials 2 := ⟨tb8 (i := 160) (by decide +kernel) rfl, tb1 (i := 14) (by decide +kernel) rfl, by decide, by decide +kernel, by decide +kernel, by decide +kernel⟩
theorem vs_X9_fewestTrials : Cond.instanceMethod mi_X9_fewestTrials.1 ∈ TB ∧ Cond.selects RX9 mi_X9_fewestTrials.1 mi_X9_fewestTrials.1 ∈ TB := ⟨tb8 (i := 159) (by decide +kernel) rfl, sel8 (i := 12) (by decide +kernel)⟩
abbrev cX9_trialsBy : ByteArray := prog_11_method_10_code
def yX9_trialsBy : MethodName := ⟨RX9, "trialsBy", "(II)I"⟩
abbrev mi_X9_trialsBy : Mi := (yX9_trialsBy, cX9_trialsBy, 4, (some .int))
def iX9_trialsBy_0 : List (Nat × Instr × Nat) := [(0, .aload_n 0, 1), (1, .getfield 9, 3), (4, .iconst 1, 1), (5, .iload_n 1, 1), (6, .ishl, 1), (7, .invokestatic 24, 3), (10, .istore_n 3, 1), (11, .iconst 1, 1), (12, .aload_n 0, 1), (13, .getfield 21, 3), (16, .iload_n 2, 1), (17, .iload_n 3, 1), (18, .iadd, 1), (19, .invokestatic 24, 3), (22, .aload_n 0, 1), (23, .getfield 21, 3), (26, .iload_n 2, 1), (27, .iconst 2, 1), (28, .iload_n 3, 1), (29, .imul, 1), (30, .iadd, 1), (31, .invokestatic 24, 3), (34, .invokestatic 58, 3), (37, .iadd, 1), (38, .ireturn, 1)]
theorem kX9_trialsBy_0 : ckI cX9_trialsBy iX9_trialsBy_0 = true := by decide +kernel
theorem my_X9_trialsBy : MY mi_X9_trialsBy 2 := ⟨tb8 (i := 165) (by decide +kernel) rfl, tb1 (i := 14) (by decide +kernel) rfl, by decide, by decide +kernel, by decide +kernel, by decide +kernel⟩
theorem vs_X9_trialsBy : Cond.instanceMethod mi_X9_trialsBy.1 ∈ TB ∧ Cond.selects RX9 mi_X9_trialsBy.1 mi_X9_trialsBy.1 ∈ TB := ⟨tb8 (i := 164) (by decide +kernel) rfl, sel8 (i := 13) (by decide +kernel)⟩
abbrev cX9_firstTrial : ByteArray := prog_11_method_11_code
def yX9_firstTrial : MethodName := ⟨RX9, "firstTrial", "()I"⟩
abbrev mi_X9_firstTrial : Mi := (yX9_firstTrial, cX9_firstTrial, 2, (some .int))
def iX9_firstTrial_0 : List (Nat × Instr × Nat) := [(0, .iconst 0, 1), (1, .istore_n 1, 1), (2, .iload_n 1, 1), (3, .bipush 8, 2), (5, .if_icmp .ge 35, 3), (8, .aload_n 0, 1), (9, .getfield 36, 3), (12, .iload_n 1, 1), (13, .invokestatic 46, 3), (16, .ifCond .eq 18, 3), (19, .aload_n 0, 1), (20, .iload_n 1, 1), (21, .iconst 0, 1), (22, .invokevirtual 50, 3), (25, .aload_n 0, 1), (26, .invokevirtual 61, 3), (29, .if_icmp .ne 5, 3), (32, .iload_n 1, 1), (33, .ireturn, 1), (34, .iinc 1 1, 3), (37, .goto (-35), 3), (40, .iconst (-1), 1), (41, .ireturn, 1)]
theorem kX9_firstTrial_0 : ckI cX9_firstTrial iX9_firstTrial_0 = true := by decide +kernel
theorem my_X9_firstTrial : MY mi_X9_firstTrial 0 := ⟨tb8 (i := 175) (by decide +kernel) rfl, tb1 (i := 14) (by decide +kernel) rfl, by decide, by decide +kernel, by decide +kernel, by decide +kernel⟩
theorem vs_X9_firstTrial : Cond.instanceMethod mi_X9_firstTrial.1 ∈ TB ∧ Cond.selects RX9 mi_X9_firstTrial.1 mi_X9_firstTrial.1 ∈ TB := ⟨tb8 (i := 174) (by decide +kernel) rfl, sel8 (i := 15) (by decide +kernel)⟩
abbrev cX9_playOut : ByteArray := prog_11_method_12_code
def yX9_playOut : MethodName := ⟨RX9, "playOut", "(I)V"⟩
abbrev mi_X9_playOut : Mi := (yX9_playOut, cX9_playOut, 6, none)
def iX9_playOut_0 : List (Nat × Instr × Nat) := [(0, .aload_n 0, 1), (1, .getfield 36, 3), (4, .istore_n 2, 1), (5, .iload_n 2, 1), (6, .ifCond .lt 78, 3), (9, .iload_n 1, 1), (10, .iload_n 2, 1), (11, .invokestatic 65, 3), (14, .iadd, 1), (15, .iconst 1, 1), (16, .iand, 1), (17, .istore_n 3, 1), (18, .iload_n 2, 1), (19, .istore 4, 2), (21, .iload 4, 2), (23, .ifCond .lt 55, 3), (26, .iload_n 2, 1), (27, .aload_n 0, 1), (28, .getfield 36, 3), (31, .iconst (-1), 1), (32, .ixor, 1), (33, .iand, 1), (34, .ifCond .ne 44, 3), (37, .iload 4, 2), (39, .iload_n 2, 1), (40, .iconst (-1), 1), (41, .ixor, 1), (42, .iand, 1), (43, .ifCond .ne 29, 3), (46, .aload_n 0, 1), (47, .iload_n 2, 1), (48, .iload 4, 2), (50, .invokevirtual 32, 3), (53, .istore 5, 2), (55, .aload_n 0, 1), (56, .getfield 21, 3), (59, .iload 5, 2), (61, .aload_n 0, 1), (62, .iload_n 2, 1), (63, .iload 5, 2), (65, .iload_n 3, 1), (66, .invokevirtual 71, 3), (69, .invokestatic 28, 3), (72, .iinc 4 (-1), 3), (75, .goto (-54), 3), (78, .iinc 2 (-1), 3), (81, .goto (-76), 3), (84, .return_, 1)]
theorem kX9_playOut_0 : ckI cX9_playOut iX9_playOut_0 = true := by decide +kernel
theorem my_X9_playOut : MY mi_X9_playOut 1 := ⟨tb8 (i := 221) (by decide +kernel) rfl, tb1 (i := 14) (by decide +kernel) rfl, by decide, by decide +kernel, by decide +kernel, by decide +kernel⟩
theorem vs_X9_playOut : Cond.instanceMethod mi_X9_playOut.1 ∈ TB ∧ Cond.selects RX9 mi_X9_playOut.1 mi_X9_playOut.1 ∈ TB := ⟨tb8 (i := 220) (by decide +kernel) rfl, sel9 (i := 6) (by decide +kernel)⟩
abbrev cX9_winner : ByteArray := prog_11_method_13_code
def yX9_winner : MethodName := ⟨RX9, "winner", "(III)I"⟩
abbrev mi_X9_winner : Mi := (yX9_winner, cX9_winner, 5, (some .int))
def iX9_winner_0 : List (Nat × Instr × Nat) := [(0, .iload_n 1, 1), (1, .aload_n 0, 1), (2, .getfield 36, 3), (5, .if_icmp .ne 21, 3), (8, .aload_n 0, 1), (9, .getfield 18, 3), (12, .iload_n 2, 1), (13, .invokestatic 24, 3), (16, .iconst 1, 1), (17, .if_icmp .ne 7, 3), (20, .iconst 1, 1), (21, .goto 4, 3), (24, .iconst 0, 1), (25, .ireturn, 1), (26, .iconst 1, 1), (27, .iload_n 3, 1), (28, .isub, 1), (29, .istore 4, 2), (31, .aload_n 0, 1), (32, .iload_n 1, 1), (33, .iload_n 2, 1), (34, .iload 4, 2), (36, .invokevirtual 75, 3), (39, .ifCond .lt 8, 3), (42, .iload 4, 2), (44, .goto 7, 3), (47, .iconst 1, 1), (48, .iload 4, 2), (50, .isub, 1), (51, .ireturn, 1)]
theorem kX9_winner_0 : ckI cX9_winner iX9_winner_0 = true := by decide +kernel
theorem my_X9_winner : MY mi_X9_winner 3 := ⟨tb8 (i := 226) (by decide +kernel) rfl, tb1 (i := 14) (by decide +kernel) rfl, by decide, by decide +kernel, by decide +kernel, by decide +kernel⟩
theorem vs_X9_winner : Cond.instanceMethod mi_X9_winner.1 ∈ TB ∧ Cond.selects RX9 mi_X9_winner.1 mi_X9_winner.1 ∈ TB := ⟨tb8 (i := 225) (by decide +kernel) rfl, sel9 (i := 7) (by decide +kernel)⟩
abbrev cX9_bestTurn : ByteArray := prog_11_method_14_code
def yX9_bestTurn : MethodName := ⟨RX9, "bestTurn", "(III)I"⟩
abbrev mi_X9_bestTurn : Mi := (yX9_bestTurn, cX9_bestTurn, 6, (some .int))
def iX9_bestTurn_0 : List (Nat × Instr × Nat) := [(0, .iconst 0, 1), (1, .istore 4, 2), (3, .iload 4, 2), (5, .bipush 8, 2), (7, .if_icmp .ge 76, 3), (10, .aload_n 0, 1), (11, .getfield 36, 3), (14, .iload_n 1, 1), (15, .iconst (-1), 1), (16, .ixor, 1), (17, .iand, 1), (18, .iload 4, 2), (20, .invokestatic 46, 3), (23, .ifCond .eq 54, 3), (26, .aload_n 0, 1), (27, .getfield 9, 3), (30, .iconst 1, 1), (31, .iload 4, 2), (33, .ishl, 1), (34, .invokestatic 24, 3), (37, .istore 5, 2), (39, .aload_n 0, 1), (40, .iload_n 2, 1), (41, .iload 5, 2), (43, .iadd, 1), (44, .iload_n 3, 1), (45, .invokevirtual 78, 3), (48, .ifCond .eq 8, 3), (51, .iconst 2, 1), (52, .iload 4, 2), (54, .imul, 1), (55, .ireturn, 1), (56, .aload_n 0, 1), (57, .iload_n 2, 1), (58, .iconst 2, 1), (59, .iload 5, 2), (61, .imul, 1), (62, .iadd, 1), (63, .iload_n 3, 1), (64, .invokevirtual 78, 3), (67, .ifCond .eq 10, 3), (70, .iconst 2, 1), (71, .iload 4, 2), (73, .imul, 1), (74, .iconst 1, 1), (75, .iadd, 1), (76, .ireturn, 1), (77, .iinc 4 1, 3), (80, .goto (-77), 3), (83, .iconst (-1), 1), (84, .ireturn, 1)]
theorem kX9_bestTurn_0 : ckI cX9_bestTurn iX9_bestTurn_0 = true := by decide +kernel
theorem my_X9_bestTurn : MY mi_X9_bestTurn 3 := ⟨tb8 (i := 230) (by decide +kernel) rfl, tb1 (i := 14) (by decide +kernel) rfl, by decide, by decide +kernel, by decide +kernel, by decide +kernel⟩
theorem vs_X9_bestTurn : Cond.instanceMethod mi_X9_bestTurn.1 ∈ TB ∧ Cond.selects RX9 mi_X9_bestTurn.1 mi_X9_bestTurn.1 ∈ TB := ⟨tb8 (i := 229) (by decide +kernel) rfl, sel9 (i := 8) (by decide +kernel)⟩
abbrev cX9_leadsTo : ByteArray := prog_11_method_15_code
def yX9_leadsTo : MethodName := ⟨RX9, "leadsTo", "(II)Z"⟩
abbrev mi_X9_leadsTo : Mi := (yX9_leadsTo, cX9_leadsTo, 3, (some .boolean))
def iX9_leadsTo_0 : List (Nat × Instr × Nat) := [(0, .aload_n 0, 1), (1, .getfield 18, 3), (4, .iload_n 1, 1), (5, .invokestatic 24, 3), (8, .ifCond .eq 19, 3), (11, .aload_n 0, 1), (12, .getfield 21, 3), (15, .iload_n 1, 1), (16, .invokestatic 24, 3), (19, .iload_n 2, 1), (20, .if_icmp .ne 7, 3), (23, .iconst 1, 1), (24, .goto 4, 3), (27, .iconst 0, 1), (28, .ireturn, 1)]
theorem kX9_leadsTo_0 : ckI cX9_leadsTo iX9_leadsTo_0 = true := by decide +kernel
theorem my_X9_leadsTo : MY mi_X9_leadsTo 2 := ⟨tb8 (i := 234) (by decide +kernel) rfl, tb1 (i := 14) (by decide +kernel) rfl, by decide, by decide +kernel, by decide +kernel, by decide +kernel⟩
theorem vs_X9_leadsTo : Cond.instanceMethod mi_X9_leadsTo.1 ∈ TB ∧ Cond.selects RX9 mi_X9_leadsTo.1 mi_X9_leadsTo.1 ∈ TB := ⟨tb8 (i := 233) (by decide +kernel) rfl, sel9 (i := 9) (by decide +kernel)⟩
abbrev cX9_winningTurn : ByteArray := prog_11_method_16_code
def yX9_winningTurn : MethodName := ⟨RX9, "winningTurn", "(I)I"⟩
abbrev mi_X9_winningTurn : Mi := (yX9_winningTurn, cX9_winningTurn, 2, (some .int))
def iX9_winningTurn_0 : List (Nat × Instr × Nat) := [(0, .aload_n 0, 1), (1, .iconst 0, 1), (2, .iconst 0, 1), (3, .iconst 1, 1), (4, .iload_n 1, 1), (5, .isub, 1), (6, .invokevirtual 75, 3), (9, .ireturn, 1)]
theorem kX9_winningTurn_0 : ckI cX9_winningTurn iX9_winningTurn_0 = true := by decide +kernel
theorem my_X9_winningTurn : MY mi_X9_winningTurn 1 := ⟨tb9 (i := 6) (by decide +kernel) rfl, tb1 (i := 14) (by decide +kernel) rfl, by decide, by decide +kernel, by decide +kernel, by decide +kernel⟩
theorem vs_X9_winningTurn : Cond.instanceMethod mi_X9_winningTurn.1 ∈ TB ∧ Cond.selects RX9 mi_X9_winningTurn.1 mi_X9_winningTurn.1 ∈ TB := ⟨tb9 (i := 5) (by decide +kernel) rfl, sel9 (i := 11) (by decide +kernel)⟩
abbrev cX9_isProof : ByteArray := prog_11_method_17_code
def yX9_isProof : MethodName := ⟨RX9, "isProof", "(III)Z"⟩
abbrev mi_X9_isProof : Mi := (yX9_isProof, cX9_isProof, 7, (some .boolean))
def iX9_isProof_0 : List (Nat × Instr × Nat) := [(0, .aload_n 0, 1), (1, .iload_n 1, 1), (2, .iload_n 2, 1), (3, .invokevirtual 32, 3), (6, .istore 4, 2), (8, .aload_n 0, 1), (9, .getfield 18, 3), (12, .iload 4, 2), (14, .invokestatic 24, 3), (17, .iload_n 3, 1), (18, .if_icmp .eq 5, 3), (21, .iconst 0, 1), (22, .ireturn, 1), (23, .iconst 0, 1), (24, .istore 5, 2), (26, .iload 5, 2), (28, .bipush 8, 2), (30, .if_icmp .ge 64, 3), (33, .iload_n 2, 1), (34, .iload 5, 2), (36, .invokestatic 46, 3), (39, .ifCond .eq 7, 3), (42, .iconst 2, 1), (43, .goto 4, 3), (46, .iconst 1, 1), (47, .istore 6, 2), (49, .iload_n 1, 1), (50, .iload 5, 2), (52, .invokestatic 46, 3), (55, .ifCond .eq 33, 3), (58, .aload_n 0, 1), (59, .getfield 18, 3), (62, .iload 4, 2), (64, .iload 6, 2), (66, .aload_n 0, 1), (67, .getfield 9, 3), (70, .iconst 1, 1), (71, .iload 5, 2), (73, .ishl, 1), (74, .invokestatic 24, 3), (77, .imul, 1), (78, .isub, 1), (79, .invokestatic 24, 3), (82, .iload_n 3, 1), (83, .if_icmp .ne 5, 3), (86, .iconst 0, 1), (87, .ireturn, 1), (88, .iinc 5 1, 3), (91, .goto (-65), 3), (94, .iconst 1, 1), (95, .ireturn, 1)]
theorem kX9_isProof_0 : ckI cX9_isProof iX9_isProof_0 = true := by decide +kernel
theorem my_X9_isProof : MY mi_X9_isProof 3 := ⟨tb8 (i := 209) (by decide +kernel) rfl, tb1 (i := 14) (by decide +kernel) rfl, by decide, by decide +kernel, by decide +kernel, by decide +kernel⟩
theorem vs_X9_isProof : Cond.instanceMethod mi_X9_isProof.1 ∈ TB ∧ Cond.selects RX9 mi_X9_isProof.1 mi_X9_isProof.1 ∈ TB := ⟨tb8 (i := 208) (by decide +kernel) rfl, sel9 (i := 5) (by decide +kernel)⟩
abbrev cX10_init : ByteArray := prog_12_method_1_code
def yX10_init : MethodName := ⟨RX10, "<init>", "()V"⟩
abbrev mi_X10_init : Mi := (yX10_init, cX10_init, 1, none)
def iX10_init_0 : List (Nat × Instr × Nat) := [(0, .aload_n 0, 1), (1, .invokespecial 3, 3), (4, .aload_n 0, 1), (5, .iconst 4, 1), (6, .newarray .long, 2), (8, .putfield 9, 3), (11, .return_, 1)]
theorem kX10_init_0 : ckI cX10_init iX10_init_0 = true := by decide +kernel
theorem my_X10_init : MY mi_X10_init 0 := ⟨tb1 (i := 189) (by decide +kernel) rfl, tb1 (i := 10) (by decide +kernel) rfl, by decide, by decide +kernel, by decide +kernel, by decide +kernel⟩
theorem is_X10_init : mi_X10_init.1.name = "<init>" ∧ Cond.instanceMethod mi_X10_init.1 ∈ TB := ⟨rfl, tb1 (i := 188) (by decide +kernel) rfl⟩
abbrev cX10_soIn : ByteArray := prog_12_method_2_code
def yX10_soIn : MethodName := ⟨RX10, "soIn", "(II)J"⟩
abbrev mi_X10_soIn : Mi := (yX10_soIn, cX10_soIn, 2, (some .long))
def iX10_soIn_0 : List (Nat × Instr × Nat) := [(0, .iload_n 0, 1), (1, .ifCond .lt 17, 3), (4, .iload_n 0, 1), (5, .getstatic 15, 3), (8, .arraylength, 1), (9, .if_icmp .ge 9, 3), (12, .getstatic 15, 3), (15, .iload_n 0, 1), (16, .laload, 1), (17, .lreturn, 1), (18, .iload_n 1, 1), (19, .iload_n 0, 1), (20, .getstatic 15, 3), (23, .arraylength, 1), (24, .isub, 1), (25, .ishr, 1), (26, .iconst 1, 1), (27, .iand, 1), (28, .ifCond .eq 9, 3), (31, .ldc2_w 18, 3), (34, .goto 4, 3), (37, .lconst 0, 1), (38, .lreturn, 1)]
theorem kX10_soIn_0 : ckI cX10_soIn iX10_soIn_0 = true := by decide +kernel
theorem my_X10_soIn : MY mi_X10_soIn 2 := ⟨tb3 (i := 49) (by decide +kernel) rfl, tb1 (i := 10) (by decide +kernel) rfl, by decide, by decide +kernel, by decide +kernel, by decide +kernel⟩
theorem st_X10_soIn : Cond.static mi_X10_soIn.1 ∈ TB := tb3 (i := 48) (by decide +kernel) rfl
abbrev cX10_fill : ByteArray := prog_12_method_3_code
def yX10_fill : MethodName := ⟨RX10, "fill", "()V"⟩
abbrev mi_X10_fill : Mi := (yX10_fill, cX10_fill, 2, none)
def iX10_fill_0 : List (Nat × Instr × Nat) := [(0, .iconst 0, 1), (1, .istore_n 1, 1), (2, .iload_n 1, 1), (3, .aload_n 0, 1), (4, .getfield 9, 3), (7, .arraylength, 1), (8, .if_icmp .ge 18, 3), (11, .aload_n 0, 1), (12, .getfield 9, 3), (15, .iload_n 1, 1), (16, .ldc2_w 18, 3), (19, .lastore, 1), (20, .iinc 1 1, 3), (23, .goto (-21), 3), (26, .return_, 1)]
theorem kX10_fill_0 : ckI cX10_fill iX10_fill_0 = true := by decide +kernel
theorem my_X10_fill : MY mi_X10_fill 0 := ⟨tb3 (i := 30) (by decide +kernel) rfl, tb1 (i := 10) (by decide +kernel) rfl, by decide, by decide +kernel, by decide +kernel, by decide +kernel⟩
theorem vs_X10_fill : Cond.instanceMethod mi_X10_fill.1 ∈ TB ∧ Cond.selects RX10 mi_X10_fill.1 mi_X10_fill.1 ∈ TB := ⟨tb3 (i := 29) (by decide +kernel) rfl, sel1 (i := 1) (by decide +kernel)⟩
abbrev cX10_copy : ByteArray := prog_12_method_4_code
def yX10_copy : MethodName := ⟨RX10, "copy", "(LStruckCounts$Worlds;)V"⟩
abbrev mi_X10_copy : Mi := (yX10_copy, cX10_copy, 3, none)
def iX10_copy_0 : List (Nat × Instr × Nat) := [(0, .iconst 0, 1), (1, .istore_n 2, 1), (2, .iload_n 2, 1), (3, .aload_n 0, 1), (4, .getfield 9, 3), (7, .arraylength, 1), (8, .if_icmp .ge 30, 3), (11, .iload_n 2, 1), (12, .aload_n 1, 1), (13, .getfield 9, 3), (16, .arraylength, 1), (17, .if_icmp .ge 21, 3), (20, .aload_n 0, 1), (21, .getfield 9, 3), (24, .iload_n 2, 1), (25, .aload_n 1, 1), (26, .getfield 9, 3), (29, .iload_n 2, 1), (30, .laload, 1), (31, .lastore, 1), (32, .iinc 2 1, 3), (35, .goto (-33), 3), (38, .return_, 1)]
theorem kX10_copy_0 : ckI cX10_copy iX10_copy_0 = true := by decide +kernel
theorem my_X10_copy : MY mi_X10_copy 1 := ⟨tb7 (i := 83) (by decide +kernel) rfl, tb1 (i := 10) (by decide +kernel) rfl, by decide, by decide +kernel, by decide +kernel, by decide +kernel⟩
theorem vs_X10_copy : Cond.instanceMethod mi_X10_copy.1 ∈ TB ∧ Cond.selects RX10 mi_X10_copy.1 mi_X10_copy.1 ∈ TB := ⟨tb7 (i := 82) (by decide +kernel) rfl, sel5 (i := 10) (by decide +kernel)⟩
abbrev cX10_and : ByteArray := prog_12_method_5_code
def yX10_and : MethodName := ⟨RX10, "and", "(LStruckCounts$Worlds;)V"⟩
abbrev mi_X10_and : Mi := (yX10_and, cX10_and, 3, none)
def iX10_and_0 : List (Nat × Instr × Nat) := [(0, .iconst 0, 1), (1, .istore_n 2, 1), (2, .iload_n 2, 1), (3, .aload_n 0, 1), (4, .getfield 9, 3), (7, .arraylength, 1), (8, .if_icmp .ge 33, 3), (11, .iload_n 2, 1), (12, .aload_n 1, 1), (13, .getfield 9, 3), (16, .arraylength, 1), (17, .if_icmp .ge 24, 3), (20, .aload_n 0, 1), (21, .getfield 9, 3), (24, .iload_n 2, 1), (25, .dup2, 1), (26, .laload, 1), (27, .aload_n 1, 1), (28, .getfield 9, 3), (31, .iload_n 2, 1), (32, .laload, 1), (33, .land, 1), (34, .lastore, 1), (35, .iinc 2 1, 3), (38, .goto (-36), 3), (41, .return_, 1)]
theorem kX10_and_0 : ckI cX10_and iX10_and_0 = true := by decide +kernel
theorem my_X10_and : MY mi_X10_and 1 := ⟨tb3 (i := 108) (by decide +kernel) rfl, tb1 (i := 10) (by decide +kernel) rfl, by decide, by decide +kernel, by decide +kernel, by decide +kernel⟩
theorem vs_X10_and : Cond.instanceMethod mi_X10_and.1 ∈ TB ∧ Cond.selects RX10 mi_X10_and.1 mi_X10_and.1 ∈ TB := ⟨tb3 (i := 107) (by decide +kernel) rfl, sel1 (i := 15) (by decide +kernel)⟩
abbrev cX10_minus : ByteArray := prog_12_method_6_code
def yX10_minus : MethodName := ⟨RX10, "minus", "(LStruckCounts$Worlds;)V"⟩
abbrev mi_X10_minus : Mi := (yX10_minus, cX10_minus, 3, none)
def iX10_minus_0 : List (Nat × Instr × Nat) := [(0, .iconst 0, 1), (1, .istore_n 2, 1), (2, .iload_n 2, 1), (3, .aload_n 0, 1), (4, .getfield 9, 3), (7, .arraylength, 1), (8, .if_icmp .ge 37, 3), (11, .iload_n 2, 1), (12, .aload_n 1, 1), (13, .getfield 9, 3), (16, .arraylength, 1), (17, .if_icmp .ge 28, 3), (20, .aload_n 0, 1), (21, .getfield 9, 3), (24, .iload_n 2, 1), (25, .dup2, 1), (26, .laload, 1), (27, .aload_n 1, 1), (28, .getfield 9, 3), (31, .iload_n 2, 1), (32, .laload, 1), (33, .ldc2_w 18, 3), (36, .lxor, 1), (37, .land, 1), (38, .lastore, 1), (39, .iinc 2 1, 3), (42, .goto (-40), 3), (45, .return_, 1)]
theorem kX10_minus_0 : ckI cX10_minus iX10_minus_0 = true := by decide +kernel
theorem my_X10_minus : MY mi_X10_minus 1 := ⟨tb3 (i := 112) (by decide +kernel) rfl, tb1 (i := 10) (by decide +kernel) rfl, by decide, by decide +kernel, by decide +kernel, by decide +kernel⟩
theorem vs_X10_minus : Cond.instanceMethod mi_X10_minus.1 ∈ TB ∧ Cond.selects RX10 mi_X10_minus.1 mi_X10_minus.1 ∈ TB := ⟨tb3 (i := 111) (by decide +kernel) rfl, sel2 (i := 0) (by decide +kernel)⟩
abbrev cX10_agree : ByteArray := prog_12_method_7_code
def yX10_agree : MethodName := ⟨RX10, "agree", "(II)V"⟩
abbrev mi_X10_agree : Mi := (yX10_agree, cX10_agree, 5, none)
def iX10_agree_0 : List (Nat × Instr × Nat) := [(0, .iconst 0, 1), (1, .istore_n 3, 1), (2, .iload_n 3, 1), (3, .bipush 8, 2), (5, .if_icmp .ge 73, 3), (8, .iconst 0, 1), (9, .istore 4, 2), (11, .iload 4, 2), (13, .aload_n 0, 1), (14, .getfield 9, 3), (17, .arraylength, 1), (18, .if_icmp .ge 54, 3), (21, .iload_n 1, 1), (22, .iload_n 3, 1), (23, .invokestatic 20, 3), (26, .ifCond .eq 46, 3), (29, .aload_n 0, 1), (30, .getfield 9, 3), (33, .iload 4, 2), (35, .dup2, 1), (36, .laload, 1), (37, .iload_n 2, 1), (38, .iload_n 3, 1), (39, .invokestatic 20, 3), (42, .ifCond .eq 12, 3), (45, .iload_n 3, 1), (46, .iload 4, 2), (48, .invokestatic 24, 3), (51, .goto 13, 3), (54, .iload_n 3, 1), (55, .iload 4, 2), (57, .invokestatic 24, 3), (60, .ldc2_w 18, 3), (63, .lxor, 1), (64, .land, 1), (65, .lastore, 1), (66, .iinc 4 1, 3), (69, .goto (-58), 3), (72, .iinc 3 1, 3), (75, .goto (-73), 3), (78, .return_, 1)]
theorem kX10_agree_0 : ckI cX10_agree iX10_agree_0 = true := by decide +kernel
theorem my_X10_agree : MY mi_X10_agree 2 := ⟨tb3 (i := 43) (by decide +kernel) rfl, tb1 (i := 10) (by decide +kernel) rfl, by decide, by decide +kernel, by decide +kernel, by decide +kernel⟩
theorem vs_X10_agree : Cond.instanceMethod mi_X10_agree.1 ∈ TB ∧ Cond.selects RX10 mi_X10_agree.1 mi_X10_agree.1 ∈ TB := ⟨tb3 (i := 42) (by decide +kernel) rfl, sel1 (i := 4) (by decide +kernel)⟩
abbrev cX10_keepFirst : ByteArray := prog_12_method_8_code
def yX10_keepFirst : MethodName := ⟨RX10, "keepFirst", "(I)V"⟩
abbrev mi_X10_keepFirst : Mi := (yX10_keepFirst, cX10_keepFirst, 2, none)
def iX10_keepFirst_0 : List (Nat × Instr × Nat) := [(0, .aload_n 0, 1), (1, .iconst (-1), 1), (2, .iload_n 1, 1), (3, .ishl, 1), (4, .iconst 0, 1), (5, .invokevirtual 28, 3), (8, .return_, 1)]
theorem kX10_keepFirst_0 : ckI cX10_keepFirst iX10_keepFirst_0 = true := by decide +kernel
theorem my_X10_keepFirst : MY mi_X10_keepFirst 1 := ⟨tb3 (i := 39) (by decide +kernel) rfl, tb1 (i := 10) (by decide +kernel) rfl, by decide, by decide +kernel, by decide +kernel, by decide +kernel⟩
theorem vs_X10_keepFirst : Cond.instanceMethod mi_X10_keepFirst.1 ∈ TB ∧ Cond.selects RX10 mi_X10_keepFirst.1 mi_X10_keepFirst.1 ∈ TB := ⟨tb3 (i := 38) (by decide +kernel) rfl, sel1 (i := 3) (by decide +kernel)⟩
abbrev cX10_isEmpty : ByteArray := prog_12_method_9_code
def yX10_isEmpty : MethodName := ⟨RX10, "isEmpty", "()Z"⟩
abbrev mi_X10_isEmpty : Mi := (yX10_isEmpty, cX10_isEmpty, 1, (some .boolean))
def iX10_isEmpty_0 : List (Nat × Instr × Nat) := [(0, .aload_n 0, 1), (1, .invokevirtual 32, 3), (4, .ifCond .ne 7, 3), (7, .iconst 1, 1), (8, .goto 4, 3), (11, .iconst 0, 1), (12, .ireturn, 1)]
theorem kX10_isEmpty_0 : ckI cX10_isEmpty iX10_isEmpty_0 = true := by decide +kernel
theorem my_X10_isEmpty : MY mi_X10_isEmpty 0 := ⟨tb7 (i := 7) (by decide +kernel) rfl, tb1 (i := 10) (by decide +kernel) rfl, by decide, by decide +kernel, by decide +kernel, by decide +kernel⟩
theorem vs_X10_isEmpty : Cond.instanceMethod mi_X10_isEmpty.1 ∈ TB ∧ Cond.selects RX10 mi_X10_isEmpty.1 mi_X10_isEmpty.1 ∈ TB := ⟨tb7 (i := 6) (by decide +kernel) rfl, sel4 (i := 12) (by decide +kernel)⟩
abbrev cX10_size : ByteArray := prog_12_method_10_code
def yX10_size : MethodName := ⟨RX10, "size", "()I"⟩
abbrev mi_X10_size : Mi := (yX10_size, cX10_size, 3, (some .int))
def iX10_size_0 : List (Nat × Instr × Nat) := [(0, .iconst 0, 1), (1, .istore_n 1, 1), (2, .iconst 0, 1), (3, .istore_n 2, 1), (4, .iload_n 2, 1), (5, .aload_n 0, 1), (6, .getfield 9, 3), (9, .arraylength, 1), (10, .if_icmp .ge 21, 3), (13, .iload_n 1, 1), (14, .aload_n 0, 1), (15, .getfield 9, 3), (18, .iload_n 2, 1), (19, .laload, 1), (20, .invokestatic 36, 3), (23, .iadd, 1), (24, .istore_n 1, 1), (25, .iinc 2 1, 3), (28, .goto (-24), 3), (31, .iload_n 1, 1), (32, .ireturn, 1)]
theorem kX10_size_0 : ckI cX10_size iX10_size_0 = true := by decide +kernel
theorem my_X10_size : MY mi_X10_size 0 := ⟨tb7 (i := 11) (by decide +kernel) rfl, tb1 (i := 10) (by decide +kernel) rfl, by decide, by decide +kernel, by decide +kernel, by decide +kernel⟩
theorem vs_X10_size : Cond.instanceMethod mi_X10_size.1 ∈ TB ∧ Cond.selects RX10 mi_X10_size.1 mi_X10_size.1 ∈ TB := ⟨tb7 (i := 10) (by decide +kernel) rfl, sel4 (i := 13) (by decide +kernel)⟩
abbrev cX10_within : ByteArray := prog_12_method_11_code
def yX10_within : MethodName := ⟨RX10, "within", "(LStruckCounts$Worlds;)Z"⟩
abbrev mi_X10_within : Mi := (yX10_within, cX10_within, 3, (some .boolean))
def iX10_within_0 : List (Nat × Instr × Nat) := [(0, .iconst 0, 1), (1, .istore_n 2, 1), (2, .iload_n 2, 1), (3, .aload_n 0, 1), (4, .getfield 9, 3), (7, .arraylength, 1), (8, .if_icmp .ge 42, 3), (11, .iload_n 2, 1), (12, .aload_n 1, 1), (13, .getfield 9, 3), (16, .arraylength, 1), (17, .if_icmp .ge 33, 3), (20, .aload_n 0, 1), (21, .getfield 9, 3), (24, .iload_n 2, 1), (25, .laload, 1), (26, .aload_n 1, 1), (27, .getfield 9, 3), (30, .iload_n 2, 1), (31, .laload, 1), (32, .ldc2_w 18, 3), (35, .lxor, 1), (36, .land, 1), (37, .lconst 0, 1), (38, .lcmp, 1), (39, .ifCond .eq 5, 3), (42, .iconst 0, 1), (43, .ireturn, 1), (44, .iinc 2 1, 3), (47, .goto (-45), 3), (50, .iconst 1, 1), (51, .ireturn, 1)]
theorem kX10_within_0 : ckI cX10_within iX10_within_0 = true := by decide +kernel
theorem my_X10_within : MY mi_X10_within 1 := ⟨tb7 (i := 115) (by decide +kernel) rfl, tb1 (i := 10) (by decide +kernel) rfl, by decide, by decide +kernel, by decide +kernel, by decide +kernel⟩
theorem vs_X10_within : Cond.instanceMethod mi_X10_within.1 ∈ TB ∧ Cond.selects RX10 mi_X10_within.1 mi_X10_within.1 ∈ TB := ⟨tb7 (i := 114) (by decide +kernel) rfl, sel6 (i := 1) (by decide +kernel)⟩
abbrev cX10_meets : ByteArray := prog_12_method_12_code
def yX10_meets : MethodName := ⟨RX10, "meets", "(LStruckCounts$Worlds;)Z"⟩
abbrev mi_X10_meets : Mi := (yX10_meets, cX10_meets, 3, (some .boolean))
def iX10_meets_0 : List (Nat × Instr × Nat) := [(0, .iconst 0, 1), (1, .istore_n 2, 1), (2, .iload_n 2, 1), (3, .aload_n 0, 1), (4, .getfield 9, 3), (7, .arraylength, 1), (8, .if_icmp .ge 38, 3), (11, .iload_n 2, 1), (12, .aload_n 1, 1), (13, .getfield 9, 3), (16, .arraylength, 1), (17, .if_icmp .ge 29, 3), (20, .aload_n 0, 1), (21, .getfield 9, 3), (24, .iload_n 2, 1), (25, .laload, 1), (26, .aload_n 1, 1), (27, .getfield 9, 3), (30, .iload_n 2, 1), (31, .laload, 1), (32, .land, 1), (33, .lconst 0, 1), (34, .lcmp, 1), (35, .ifCond .eq 5, 3), (38, .iconst 1, 1), (39, .ireturn, 1), (40, .iinc 2 1, 3), (43, .goto (-41), 3), (46, .iconst 0, 1), (47, .ireturn, 1)]
theorem kX10_meets_0 : ckI cX10_meets iX10_meets_0 = true := by decide +kernel
theorem my_X10_meets : MY mi_X10_meets 1 := ⟨tb7 (i := 123) (by decide +kernel) rfl, tb1 (i := 10) (by decide +kernel) rfl, by decide, by decide +kernel, by decide +kernel, by decide +kernel⟩
theorem vs_X10_meets : Cond.instanceMethod mi_X10_meets.1 ∈ TB ∧ Cond.selects RX10 mi_X10_meets.1 mi_X10_meets.1 ∈ TB := ⟨tb7 (i := 122) (by decide +kernel) rfl, sel6 (i := 3) (by decide +kernel)⟩
abbrev cX10_howIn : ByteArray := prog_12_method_13_code
def yX10_howIn : MethodName := ⟨RX10, "howIn", "(LStruckCounts$Worlds;)I"⟩
abbrev mi_X10_howIn : Mi := (yX10_howIn, cX10_howIn, 2, (some .int))
def iX10_howIn_0 : List (Nat × Instr × Nat) := [(0, .aload_n 0, 1), (1, .aload_n 1, 1), (2, .invokevirtual 42, 3), (5, .ifCond .eq 7, 3), (8, .iconst 1, 1), (9, .goto 16, 3), (12, .aload_n 0, 1), (13, .aload_n 1, 1), (14, .invokevirtual 46, 3), (17, .ifCond .eq 7, 3), (20, .iconst 2, 1), (21, .goto 4, 3), (24, .iconst 0, 1), (25, .ireturn, 1)]
theorem kX10_howIn_0 : ckI cX10_howIn iX10_howIn_0 = true := by decide +kernel
theorem my_X10_howIn : MY mi_X10_howIn 1 := ⟨tb8 (i := 9) (by decide +kernel) rfl, tb1 (i := 10) (by decide +kernel) rfl, by decide, by decide +kernel, by decide +kernel, by decide +kernel⟩
theorem vs_X10_howIn : Cond.instanceMethod mi_X10_howIn.1 ∈ TB ∧ Cond.selects RX10 mi_X10_howIn.1 mi_X10_howIn.1 ∈ TB := ⟨tb8 (i := 8) (by decide +kernel) rfl, sel7 (i := 8) (by decide +kernel)⟩
abbrev cX10_holds : ByteArray := prog_12_method_14_code
def yX10_holds : MethodName := ⟨RX10, "holds", "(I)Z"⟩
abbrev mi_X10_holds : Mi := (yX10_holds, cX10_holds, 3, (some .boolean))
def iX10_holds_0 : List (Nat × Instr × Nat) := [(0, .iload_n 1, 1), (1, .bipush 6, 2), (3, .ishr, 1), (4, .istore_n 2, 1), (5, .iload_n 2, 1), (6, .ifCond .lt 34, 3), (9, .iload_n 2, 1), (10, .aload_n 0, 1), (11, .getfield 9, 3), (14, .arraylength, 1), (15, .if_icmp .ge 25, 3), (18, .aload_n 0, 1), (19, .getfield 9, 3), (22, .iload_n 2, 1), (23, .laload, 1), (24, .iload_n 1, 1), (25, .bipush 63, 2), (27, .iand, 1), (28, .lushr, 1), (29, .lconst 1, 1), (30, .land, 1), (31, .lconst 0, 1), (32, .lcmp, 1), (33, .ifCond .eq 7, 3), (36, .iconst 1, 1), (37, .goto 4, 3), (40, .iconst 0, 1), (41, .ireturn, 1)]
theorem kX10_holds_0 : ckI cX10_holds iX10_holds_0 = true := by decide +kernel
theorem my_X10_holds : MY mi_X10_holds 1 := ⟨tb7 (i := 177) (by decide +kernel) rfl, tb1 (i := 10) (by decide +kernel) rfl, by decide, by decide +kernel, by decide +kernel, by decide +kernel⟩
theorem vs_X10_holds : Cond.instanceMethod mi_X10_holds.1 ∈ TB ∧ Cond.selects RX10 mi_X10_holds.1 mi_X10_holds.1 ∈ TB := ⟨tb7 (i := 176) (by decide +kernel) rfl, sel6 (i := 12) (by decide +kernel)⟩
abbrev cX11_init : ByteArray := prog_1_method_1_code
def yX11_init : MethodName := ⟨RX11, "<init>", "()V"⟩
abbrev mi_X11_init : Mi := (yX11_init, cX11_init, 1, none)
def iX11_init_0 : List (Nat × Instr × Nat) := [(0, .aload_n 0, 1), (1, .invokespecial 1, 3), (4, .aload_n 0, 1), (5, .new 7, 3), (8, .dup, 1), (9, .invokespecial 9, 3), (12, .putfield 10, 3), (15, .aload_n 0, 1), (16, .new 16, 3), (19, .dup, 1), (20, .invokespecial 18, 3), (23, .putfield 19, 3), (26, .aload_n 0, 1), (27, .new 23, 3), (30, .dup, 1), (31, .invokespecial 25, 3), (34, .putfield 26, 3), (37, .aload_n 0, 1), (38, .new 30, 3), (41, .dup, 1), (42, .invokespecial 32, 3), (45, .putfield 33, 3), (48, .aload_n 0, 1), (49, .new 30, 3), (52, .dup, 1), (53, .invokespecial 32, 3), (56, .putfield 37, 3), (59, .aload_n 0, 1), (60, .new 40, 3), (63, .dup, 1), (64, .invokespecial 42, 3), (67, .putfield 43, 3), (70, .aload_n 0, 1), (71, .new 40, 3), (74, .dup, 1), (75, .invokespecial 42, 3), (78, .putfield 47, 3), (81, .aload_n 0, 1), (82, .new 50, 3), (85, .dup, 1), (86, .aload_n 0, 1), (87, .getfield 19, 3), (90, .aload_n 0, 1), (91, .getfield 26, 3), (94, .aload_n 0, 1), (95, .getfield 37, 3), (98, .aload_n 0, 1), (99, .getfield 47, 3), (102, .invokespecial 52, 3), (105, .putfield 55, 3), (108, .aload_n 0, 1), (109, .new 59, 3), (112, .dup, 1), (113, .invokespecial 61, 3), (116, .putfield 62, 3), (119, .aload_n 0, 1), (120, .new 66, 3), (123, .dup, 1), (124, .invokespecial 68, 3), (127, .putfield 69, 3), (130, .aload_n 0, 1), (131, .new 66, 3), (134, .dup, 1), (135, .invokespecial 68, 3)]
theorem kX11_init_0 : ckI cX11_init iX11_init_0 = true := by decide +kernel
def iX11_init_1 : List (Nat × Instr × Nat) := [(138, .putfield 73, 3), (141, .aload_n 0, 1), (142, .new 66, 3), (145, .dup, 1), (146, .invokespecial 68, 3), (149, .putfield 76, 3), (152, .aload_n 0, 1), (153, .new 79, 3), (156, .dup, 1), (157, .invokespecial 81, 3), (160, .putfield 82, 3), (163, .aload_n 0, 1), (164, .new 86, 3), (167, .dup, 1), (168, .invokespecial 88, 3), (171, .putfield 89, 3), (174, .aload_n 0, 1), (175, .new 93, 3), (178, .dup, 1), (179, .invokespecial 95, 3), (182, .putfield 96, 3), (185, .aload_n 0, 1), (186, .bipush 8, 2), (188, .newarray .int, 2), (190, .putfield 100, 3), (193, .aload_n 0, 1), (194, .getfield 33, 3), (197, .invokevirtual 104, 3), (200, .aload_n 0, 1), (201, .getfield 33, 3), (204, .aload_n 0, 1), (205, .getfield 26, 3), (208, .invokevirtual 107, 3), (211, .return_, 1)]
theorem kX11_init_1 : ckI cX11_init iX11_init_1 = true := by decide +kernel
theorem my_X11_init : MY mi_X11_init 0 := ⟨tb1 (i := 48) (by decide +kernel) rfl, tb1 (i := 1) (by decide +kernel) rfl, by decide, by decide +kernel, by decide +kernel, by decide +kernel⟩
theorem is_X11_init : mi_X11_init.1.name = "<init>" ∧ Cond.instanceMethod mi_X11_init.1 ∈ TB := ⟨rfl, tb1 (i := 47) (by decide +kernel) rfl⟩
abbrev cX11_sign : ByteArray := prog_1_method_2_code
def yX11_sign : MethodName := ⟨RX11, "sign", "(I)I"⟩
abbrev mi_X11_sign : Mi := (yX11_sign, cX11_sign, 2, (some .int))
def iX11_sign_0 : List (Nat × Instr × Nat) := [(0, .aload_n 0, 1), (1, .getfield 10, 3), (4, .iload_n 1, 1), (5, .invokevirtual 111, 3), (8, .ifCond .eq 13, 3), (11, .aload_n 0, 1), (12, .getfield 10, 3), (15, .getfield 115, 3), (18, .goto 4, 3), (21, .iconst (-1), 1), (22, .ireturn, 1)]
theorem kX11_sign_0 : ckI cX11_sign iX11_sign_0 = true := by decide +kernel
theorem my_X11_sign : MY mi_X11_sign 1 := ⟨tb6 (i := 70) (by decide +kernel) rfl, tb1 (i := 1) (by decide +kernel) rfl, by decide, by decide +kernel, by decide +kernel, by decide +kernel⟩
theorem vs_X11_sign : Cond.instanceMethod mi_X11_sign.1 ∈ TB ∧ Cond.selects RX11 mi_X11_sign.1 mi_X11_sign.1 ∈ TB := ⟨tb6 (i := 68) (by decide +kernel) rfl, tb6 (i := 69) (by decide +kernel) rfl⟩
abbrev cX11_end : ByteArray := prog_1_method_3_code
def yX11_end : MethodName := ⟨RX11, "end", "(I)Z"⟩
abbrev mi_X11_end : Mi := (yX11_end, cX11_end, 2, (some .boolean))
def iX11_end_0 : List (Nat × Instr × Nat) := [(0, .aload_n 0, 1), (1, .getfield 10, 3), (4, .iload_n 1, 1), (5, .invokevirtual 119, 3), (8, .ireturn, 1)]
theorem kX11_end_0 : ckI cX11_end iX11_end_0 = true := by decide +kernel
theorem my_X11_end : MY mi_X11_end 1 := ⟨tb6 (i := 61) (by decide +kernel) rfl, tb1 (i := 1) (by decide +kernel) rfl, by decide, by decide +kernel, by decide +kernel, by decide +kernel⟩
theorem vs_X11_end : Cond.instanceMethod mi_X11_end.1 ∈ TB ∧ Cond.selects RX11 mi_X11_end.1 mi_X11_end.1 ∈ TB := ⟨tb6 (i := 59) (by decide +kernel) rfl, tb6 (i := 60) (by decide +kernel) rfl⟩
abbrev cX11_suit : ByteArray := prog_1_method_4_code
def yX11_suit : MethodName := ⟨RX11, "suit", "()I"⟩
abbrev mi_X11_suit : Mi := (yX11_suit, cX11_suit, 3, (some .int))
def iX11_suit_0 : List (Nat × Instr × Nat) := [(0, .aload_n 0, 1), (1, .getfield 19, 3), (4, .aload_n 0, 1), (5, .getfield 10, 3), (8, .invokevirtual 122, 3), (11, .aload_n 0, 1), (12, .getfield 10, 3), (15, .iconst 0, 1), (16, .putfield 115, 3), (19, .aload_n 0, 1), (20, .getfield 55, 3), (23, .aload_n 0, 1), (24, .getfield 37, 3), (27, .aload_n 0, 1), (28, .getfield 47, 3), (31, .invokevirtual 126, 3), (34, .ifCond .ne 5, 3), (37, .iconst (-1), 1), (38, .ireturn, 1), (39, .aload_n 0, 1), (40, .getfield 37, 3), (43, .aload_n 0, 1), (44, .getfield 26, 3), (47, .invokevirtual 107, 3), (50, .aload_n 0, 1), (51, .getfield 37, 3), (54, .astore_n 1, 1), (55, .aload_n 0, 1), (56, .aload_n 0, 1), (57, .getfield 33, 3), (60, .putfield 37, 3), (63, .aload_n 0, 1), (64, .aload_n 1, 1), (65, .putfield 33, 3), (68, .aload_n 0, 1), (69, .getfield 47, 3), (72, .astore_n 2, 1), (73, .aload_n 0, 1), (74, .aload_n 0, 1), (75, .getfield 43, 3), (78, .putfield 47, 3), (81, .aload_n 0, 1), (82, .aload_n 2, 1), (83, .putfield 43, 3), (86, .aload_n 0, 1), (87, .getfield 62, 3), (90, .invokevirtual 130, 3), (93, .aload_n 0, 1), (94, .lconst 0, 1), (95, .putfield 133, 3), (98, .aload_n 0, 1), (99, .getfield 33, 3), (102, .getfield 137, 3), (105, .ireturn, 1)]
theorem kX11_suit_0 : ckI cX11_suit iX11_suit_0 = true := by decide +kernel
theorem my_X11_suit : MY mi_X11_suit 0 := ⟨tb6 (i := 79) (by decide +kernel) rfl, tb1 (i := 1) (by decide +kernel) rfl, by decide, by decide +kernel, by decide +kernel, by decide +kernel⟩
theorem vs_X11_suit : Cond.instanceMethod mi_X11_suit.1 ∈ TB ∧ Cond.selects RX11 mi_X11_suit.1 mi_X11_suit.1 ∈ TB := ⟨tb6 (i := 77) (by decide +kernel) rfl, tb6 (i := 78) (by decide +kernel) rfl⟩
abbrev cX11_fault : ByteArray := prog_1_method_5_code
def yX11_fault : MethodName := ⟨RX11, "fault", "(I)I"⟩
abbrev mi_X11_fault : Mi := (yX11_fault, cX11_fault, 2, (some .int))
def iX11_fault_0 : List (Nat × Instr × Nat) := [(0, .iload_n 1, 1), (1, .lookupswitch 57 #[(0, 27), (1, 35)], 27), (28, .aload_n 0, 1), (29, .getfield 55, 3), (32, .getfield 140, 3), (35, .ireturn, 1), (36, .aload_n 0, 1), (37, .getfield 55, 3), (40, .getfield 140, 3), (43, .ifCond .ne 7, 3), (46, .iconst (-1), 1), (47, .goto 10, 3), (50, .aload_n 0, 1), (51, .getfield 55, 3), (54, .getfield 143, 3), (57, .ireturn, 1), (58, .iconst (-1), 1), (59, .ireturn, 1)]
theorem kX11_fault_0 : ckI cX11_fault iX11_fault_0 = true := by decide +kernel
theorem my_X11_fault : MY mi_X11_fault 1 := ⟨tb7 (i := 71) (by decide +kernel) rfl, tb1 (i := 1) (by decide +kernel) rfl, by decide, by decide +kernel, by decide +kernel, by decide +kernel⟩
theorem vs_X11_fault : Cond.instanceMethod mi_X11_fault.1 ∈ TB ∧ Cond.selects RX11 mi_X11_fault.1 mi_X11_fault.1 ∈ TB := ⟨tb7 (i := 69) (by decide +kernel) rfl, tb7 (i := 70) (by decide +kernel) rfl⟩
abbrev cX11_fact : ByteArray := prog_1_method_6_code
def yX11_fact : MethodName := ⟨RX11, "fact", "(II)I"⟩
abbrev mi_X11_fact : Mi := (yX11_fact, cX11_fact, 3, (some .int))
def iX11_fact_0 : List (Nat × Instr × Nat) := [(0, .aload_n 0, 1), (1, .iload_n 1, 1), (2, .invokevirtual 146, 3), (5, .ifCond .ne 5, 3), (8, .iconst (-1), 1), (9, .ireturn, 1), (10, .iload_n 2, 1), (11, .tableswitch 97 0 3 #[29, 41, 50, 88], 29), (40, .aload_n 0, 1), (41, .getfield 33, 3), (44, .getfield 149, 3), (47, .iload_n 1, 1), (48, .invokestatic 152, 3), (51, .ireturn, 1), (52, .aload_n 0, 1), (53, .getfield 43, 3), (56, .iload_n 1, 1), (57, .invokevirtual 156, 3), (60, .ireturn, 1), (61, .aload_n 0, 1), (62, .getfield 43, 3), (65, .invokevirtual 160, 3), (68, .iload_n 1, 1), (69, .invokestatic 164, 3), (72, .ifCond .ne 7, 3), (75, .iconst 2, 1), (76, .goto 22, 3), (79, .aload_n 0, 1), (80, .getfield 43, 3), (83, .getfield 168, 3), (86, .iload_n 1, 1), (87, .invokestatic 164, 3), (90, .ifCond .eq 7, 3), (93, .iconst 1, 1), (94, .goto 4, 3), (97, .iconst 0, 1), (98, .ireturn, 1), (99, .aload_n 0, 1), (100, .getfield 43, 3), (103, .iload_n 1, 1), (104, .invokevirtual 171, 3), (107, .ireturn, 1), (108, .iconst (-1), 1), (109, .ireturn, 1)]
theorem kX11_fact_0 : ckI cX11_fact iX11_fact_0 = true := by decide +kernel
theorem my_X11_fact : MY mi_X11_fact 2 := ⟨tb7 (i := 200) (by decide +kernel) rfl, tb1 (i := 1) (by decide +kernel) rfl, by decide, by decide +kernel, by decide +kernel, by decide +kernel⟩
theorem vs_X11_fact : Cond.instanceMethod mi_X11_fact.1 ∈ TB ∧ Cond.selects RX11 mi_X11_fact.1 mi_X11_fact.1 ∈ TB := ⟨tb7 (i := 198) (by decide +kernel) rfl, tb7 (i := 199) (by decide +kernel) rfl⟩
