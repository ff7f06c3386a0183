theorem dc_122_0 : ([(0, .aload_n 0, 1), (1, .invokespecial 1, 3), (4, .aload_n 0, 1), (5, .new 7, 3), (8, .dup, 1), (9, .invokespecial 9, 3), (12, .putfield 10, 3), (15, .aload_n 0, 1), (16, .new 16, 3), (19, .dup, 1), (20, .aload_n 0, 1), (21, .getfield 10, 3), (24, .invokespecial 18, 3), (27, .putfield 21, 3), (30, .aload_n 0, 1), (31, .new 25, 3), (34, .dup, 1), (35, .invokespecial 27, 3), (38, .putfield 28, 3), (41, .aload_n 0, 1), (42, .new 32, 3), (45, .dup, 1), (46, .invokespecial 34, 3), (49, .putfield 35, 3), (52, .aload_n 0, 1)] : List (Nat × Instr × Nat)).all (fun e => decide (decode prog_1_method_1_code e.1 = .ok e.2)) = true := by decide +kernel
abbrev cl_122_0 : List (Nat × jm_O) := [(0, op_aload 0 1), (1, op_objInit), (4, op_aload 0 1), (5, op_new 8 2), (8, op_dup), (9, op_callV 8 94 1), (12, op_putA 10 0), (15, op_aload 0 1), (16, op_new 7 11), (19, op_dup), (20, op_aload 0 1), (21, op_getA 10 0), (24, op_callV 7 77 2), (27, op_putA 10 1), (30, op_aload 0 1), (31, op_new 3 5), (34, op_dup), (35, op_callV 3 29 1), (38, op_putA 10 2), (41, op_aload 0 1), (42, op_new 4 9), (45, op_dup), (46, op_callV 4 40 1), (49, op_putA 10 3), (52, op_aload 0 1)]
set_option maxRecDepth 100000 in
theorem gl_122_0 : jm_gl "FrescoWall" prog_1_method_1_code 1 (Option.none : Option Jvm.ClassFile.FieldType) true cl_122_0 :=
  jm_gc (pu_aload _ _) (sn_aload_n (i := 0) (jm_dc dc_122_0 0 rfl)) (
  jm_gc (pu_objInit) (sn_objInit (jm_dc dc_122_0 1 rfl) ⟨kc_tb 22 (by decide +kernel), kc_tb 23 (by decide +kernel), kc_tb 24 (by decide +kernel)⟩) (
  jm_gc (pu_aload _ _) (sn_aload_n (i := 0) (jm_dc dc_122_0 2 rfl)) (
  jm_gc (pu_new _ _) (sn_new (jm_dc dc_122_0 3 rfl) nw_10_7) (
  jm_gc (pu_dup) (sn_dup (jm_dc dc_122_0 4 rfl)) (
  jm_gc (pu_callV _ _ _) (sn_callN (jm_dc dc_122_0 5 rfl) lk_10_9) (
  jm_gc (pu_putA _ _) (sn_putAF (jm_dc dc_122_0 6 rfl) flw_10_10 rfl rfl) (
  jm_gc (pu_aload _ _) (sn_aload_n (i := 0) (jm_dc dc_122_0 7 rfl)) (
  jm_gc (pu_new _ _) (sn_new (jm_dc dc_122_0 8 rfl) nw_10_16) (
  jm_gc (pu_dup) (sn_dup (jm_dc dc_122_0 9 rfl)) (
  jm_gc (pu_aload _ _) (sn_aload_n (i := 0) (jm_dc dc_122_0 10 rfl)) (
  jm_gc (pu_getA _ _) (sn_getA (jm_dc dc_122_0 11 rfl) fl_10_10 rfl) (
  jm_gc (pu_callV _ _ _) (sn_callI (jm_dc dc_122_0 12 rfl) lk_10_18) (
  jm_gc (pu_putA _ _) (sn_putAF (jm_dc dc_122_0 13 rfl) flw_10_21 rfl rfl) (
  jm_gc (pu_aload _ _) (sn_aload_n (i := 0) (jm_dc dc_122_0 14 rfl)) (
  jm_gc (pu_new _ _) (sn_new (jm_dc dc_122_0 15 rfl) nw_10_25) (
  jm_gc (pu_dup) (sn_dup (jm_dc dc_122_0 16 rfl)) (
  jm_gc (pu_callV _ _ _) (sn_callI (jm_dc dc_122_0 17 rfl) lk_10_27) (
  jm_gc (pu_putA _ _) (sn_putAF (jm_dc dc_122_0 18 rfl) flw_10_28 rfl rfl) (
  jm_gc (pu_aload _ _) (sn_aload_n (i := 0) (jm_dc dc_122_0 19 rfl)) (
  jm_gc (pu_new _ _) (sn_new (jm_dc dc_122_0 20 rfl) nw_10_32) (
  jm_gc (pu_dup) (sn_dup (jm_dc dc_122_0 21 rfl)) (
  jm_gc (pu_callV _ _ _) (sn_callN (jm_dc dc_122_0 22 rfl) lk_10_34) (
  jm_gc (pu_putA _ _) (sn_putAF (jm_dc dc_122_0 23 rfl) flw_10_35 rfl rfl) (
  jm_gc (pu_aload _ _) (sn_aload_n (i := 0) (jm_dc dc_122_0 24 rfl)) (
  jm_gn)))))))))))))))))))))))))
theorem dc_122_1 : ([(53, .new 39, 3), (56, .dup, 1), (57, .aload_n 0, 1), (58, .getfield 28, 3), (61, .aload_n 0, 1), (62, .getfield 35, 3), (65, .invokespecial 41, 3), (68, .putfield 44, 3), (71, .aload_n 0, 1), (72, .new 48, 3), (75, .dup, 1), (76, .invokespecial 50, 3), (79, .putfield 51, 3), (82, .aload_n 0, 1), (83, .new 55, 3), (86, .dup, 1), (87, .aload_n 0, 1), (88, .getfield 28, 3), (91, .invokespecial 57, 3), (94, .putfield 60, 3), (97, .aload_n 0, 1), (98, .new 64, 3), (101, .dup, 1), (102, .invokespecial 66, 3), (105, .putfield 67, 3)] : List (Nat × Instr × Nat)).all (fun e => decide (decode prog_1_method_1_code e.1 = .ok e.2)) = true := by decide +kernel
abbrev cl_122_1 : List (Nat × jm_O) := [(53, op_new 9 10), (56, op_dup), (57, op_aload 0 1), (58, op_getA 10 2), (61, op_aload 0 1), (62, op_getA 10 3), (65, op_callV 9 99 3), (68, op_putA 10 4), (71, op_aload 0 1), (72, op_new 5 9), (75, op_dup), (76, op_callV 5 56 1), (79, op_putA 10 5), (82, op_aload 0 1), (83, op_new 0 11), (86, op_dup), (87, op_aload 0 1), (88, op_getA 10 2), (91, op_callV 0 0 2), (94, op_putA 10 6), (97, op_aload 0 1), (98, op_new 2 8), (101, op_dup), (102, op_callV 2 19 1), (105, op_putA 10 7)]
set_option maxRecDepth 100000 in
theorem gl_122_1 : jm_gl "FrescoWall" prog_1_method_1_code 1 (Option.none : Option Jvm.ClassFile.FieldType) true cl_122_1 :=
  jm_gc (pu_new _ _) (sn_new (jm_dc dc_122_1 0 rfl) nw_10_39) (
  jm_gc (pu_dup) (sn_dup (jm_dc dc_122_1 1 rfl)) (
  jm_gc (pu_aload _ _) (sn_aload_n (i := 0) (jm_dc dc_122_1 2 rfl)) (
  jm_gc (pu_getA _ _) (sn_getA (jm_dc dc_122_1 3 rfl) fl_10_28 rfl) (
  jm_gc (pu_aload _ _) (sn_aload_n (i := 0) (jm_dc dc_122_1 4 rfl)) (
  jm_gc (pu_getA _ _) (sn_getA (jm_dc dc_122_1 5 rfl) fl_10_35 rfl) (
  jm_gc (pu_callV _ _ _) (sn_callI (jm_dc dc_122_1 6 rfl) lk_10_41) (
  jm_gc (pu_putA _ _) (sn_putAF (jm_dc dc_122_1 7 rfl) flw_10_44 rfl rfl) (
  jm_gc (pu_aload _ _) (sn_aload_n (i := 0) (jm_dc dc_122_1 8 rfl)) (
  jm_gc (pu_new _ _) (sn_new (jm_dc dc_122_1 9 rfl) nw_10_48) (
  jm_gc (pu_dup) (sn_dup (jm_dc dc_122_1 10 rfl)) (
  jm_gc (pu_callV _ _ _) (sn_callN (jm_dc dc_122_1 11 rfl) lk_10_50) (
  jm_gc (pu_putA _ _) (sn_putAF (jm_dc dc_122_1 12 rfl) flw_10_51 rfl rfl) (
  jm_gc (pu_aload _ _) (sn_aload_n (i := 0) (jm_dc dc_122_1 13 rfl)) (
  jm_gc (pu_new _ _) (sn_new (jm_dc dc_122_1 14 rfl) nw_10_55) (
  jm_gc (pu_dup) (sn_dup (jm_dc dc_122_1 15 rfl)) (
  jm_gc (pu_aload _ _) (sn_aload_n (i := 0) (jm_dc dc_122_1 16 rfl)) (
  jm_gc (pu_getA _ _) (sn_getA (jm_dc dc_122_1 17 rfl) fl_10_28 rfl) (
  jm_gc (pu_callV _ _ _) (sn_callI (jm_dc dc_122_1 18 rfl) lk_10_57) (
  jm_gc (pu_putA _ _) (sn_putAF (jm_dc dc_122_1 19 rfl) flw_10_60 rfl rfl) (
  jm_gc (pu_aload _ _) (sn_aload_n (i := 0) (jm_dc dc_122_1 20 rfl)) (
  jm_gc (pu_new _ _) (sn_new (jm_dc dc_122_1 21 rfl) nw_10_64) (
  jm_gc (pu_dup) (sn_dup (jm_dc dc_122_1 22 rfl)) (
  jm_gc (pu_callV _ _ _) (sn_callN (jm_dc dc_122_1 23 rfl) lk_10_66) (
  jm_gc (pu_putA _ _) (sn_putAF (jm_dc dc_122_1 24 rfl) flw_10_67 rfl rfl) (
  jm_gn)))))))))))))))))))))))))
theorem dc_122_2 : ([(108, .aload_n 0, 1), (109, .new 71, 3), (112, .dup, 1), (113, .aload_n 0, 1), (114, .getfield 28, 3), (117, .aload_n 0, 1), (118, .getfield 35, 3), (121, .aload_n 0, 1), (122, .getfield 67, 3), (125, .invokespecial 73, 3), (128, .putfield 76, 3), (131, .return_, 1)] : List (Nat × Instr × Nat)).all (fun e => decide (decode prog_1_method_1_code e.1 = .ok e.2)) = true := by decide +kernel
abbrev cl_122_2 : List (Nat × jm_O) := [(108, op_aload 0 1), (109, op_new 6 11), (112, op_dup), (113, op_aload 0 1), (114, op_getA 10 2), (117, op_aload 0 1), (118, op_getA 10 3), (121, op_aload 0 1), (122, op_getA 10 7), (125, op_callV 6 67 4), (128, op_putA 10 8), (131, op_vret)]
set_option maxRecDepth 100000 in
theorem gl_122_2 : jm_gl "FrescoWall" prog_1_method_1_code 1 (Option.none : Option Jvm.ClassFile.FieldType) true cl_122_2 :=
  jm_gc (pu_aload _ _) (sn_aload_n (i := 0) (jm_dc dc_122_2 0 rfl)) (
  jm_gc (pu_new _ _) (sn_new (jm_dc dc_122_2 1 rfl) nw_10_71) (
  jm_gc (pu_dup) (sn_dup (jm_dc dc_122_2 2 rfl)) (
  jm_gc (pu_aload _ _) (sn_aload_n (i := 0) (jm_dc dc_122_2 3 rfl)) (
  jm_gc (pu_getA _ _) (sn_getA (jm_dc dc_122_2 4 rfl) fl_10_28 rfl) (
  jm_gc (pu_aload _ _) (sn_aload_n (i := 0) (jm_dc dc_122_2 5 rfl)) (
  jm_gc (pu_getA _ _) (sn_getA (jm_dc dc_122_2 6 rfl) fl_10_35 rfl) (
  jm_gc (pu_aload _ _) (sn_aload_n (i := 0) (jm_dc dc_122_2 7 rfl)) (
  jm_gc (pu_getA _ _) (sn_getA (jm_dc dc_122_2 8 rfl) fl_10_67 rfl) (
  jm_gc (pu_callV _ _ _) (sn_callI (jm_dc dc_122_2 9 rfl) lk_10_73) (
  jm_gc (pu_putA _ _) (sn_putAF (jm_dc dc_122_2 10 rfl) flw_10_76 rfl rfl) (
  jm_gc (pu_vret) (sn_vret (jm_dc dc_122_2 11 rfl) rfl) (
  jm_gn))))))))))))
theorem dc_123_0 : ([(0, .iload_n 3, 1), (1, .iconst 1, 1), (2, .if_icmp .lt 9, 3), (5, .iload_n 3, 1), (6, .bipush 8, 2), (8, .if_icmp .le 6, 3), (11, .bipush (-2), 2), (13, .ireturn, 1), (14, .aload_n 0, 1), (15, .getfield 10, 3), (18, .getfield 80, 3), (21, .iload_n 3, 1), (22, .iadd, 1), (23, .sipush 240, 3), (26, .if_icmp .le 6, 3), (29, .bipush (-4), 2), (31, .ireturn, 1), (32, .iload_n 3, 1), (33, .iconst 1, 1), (34, .isub, 1), (35, .istore 4, 2), (37, .iload 4, 2), (39, .ifCond .lt 28, 3), (42, .aload_n 0, 1), (43, .getfield 10, 3)] : List (Nat × Instr × Nat)).all (fun e => decide (decode prog_1_method_2_code e.1 = .ok e.2)) = true := by decide +kernel
abbrev cl_123_0 : List (Nat × jm_O) := [(0, op_iload 3 1), (1, op_ic 1 1), (2, op_clt 11), (5, op_iload 3 1), (6, op_ic 8 2), (8, op_cle 14), (11, op_ic (-2) 2), (13, op_iret), (14, op_aload 0 1), (15, op_getA 10 0), (18, op_getI 8 0), (21, op_iload 3 1), (22, op_ibin (fun x y => x + y)), (23, op_ic 240 3), (26, op_cle 32), (29, op_ic (-4) 2), (31, op_iret), (32, op_iload 3 1), (33, op_ic 1 1), (34, op_ibin (fun x y => x - y)), (35, op_istore 4 2), (37, op_iload 4 2), (39, op_iflt 67), (42, op_aload 0 1), (43, op_getA 10 0)]
set_option maxRecDepth 100000 in
theorem gl_123_0 : jm_gl "FrescoWall" prog_1_method_2_code 5 (Option.some Jvm.ClassFile.FieldType.int) false cl_123_0 :=
  jm_gc (pu_iload _ _) (sn_iload_n (i := 3) (jm_dc dc_123_0 0 rfl)) (
  jm_gc (pu_ic _ _) (sn_iconst (jm_dc dc_123_0 1 rfl) (by decide)) (
  jm_gc (pu_clt _) (sn_clt (jm_dc dc_123_0 2 rfl) (by decide)) (
  jm_gc (pu_iload _ _) (sn_iload_n (i := 3) (jm_dc dc_123_0 3 rfl)) (
  jm_gc (pu_ic _ _) (sn_bipush (jm_dc dc_123_0 4 rfl) (by decide)) (
  jm_gc (pu_cle _) (sn_cle (jm_dc dc_123_0 5 rfl) (by decide)) (
  jm_gc (pu_ic _ _) (sn_bipush (jm_dc dc_123_0 6 rfl) (by decide)) (
  jm_gc (pu_iret) (sn_iret (jm_dc dc_123_0 7 rfl) rfl) (
  jm_gc (pu_aload _ _) (sn_aload_n (i := 0) (jm_dc dc_123_0 8 rfl)) (
  jm_gc (pu_getA _ _) (sn_getA (jm_dc dc_123_0 9 rfl) fl_10_10 rfl) (
  jm_gc (pu_getI _ _) (sn_getI (jm_dc dc_123_0 10 rfl) fl_10_80 (Or.inl rfl)) (
  jm_gc (pu_iload _ _) (sn_iload_n (i := 3) (jm_dc dc_123_0 11 rfl)) (
  jm_gc (pu_ibin _) (sn_iadd (jm_dc dc_123_0 12 rfl)) (
  jm_gc (pu_ic _ _) (sn_sipush (jm_dc dc_123_0 13 rfl) (by decide)) (
  jm_gc (pu_cle _) (sn_cle (jm_dc dc_123_0 14 rfl) (by decide)) (
  jm_gc (pu_ic _ _) (sn_bipush (jm_dc dc_123_0 15 rfl) (by decide)) (
  jm_gc (pu_iret) (sn_iret (jm_dc dc_123_0 16 rfl) rfl) (
  jm_gc (pu_iload _ _) (sn_iload_n (i := 3) (jm_dc dc_123_0 17 rfl)) (
  jm_gc (pu_ic _ _) (sn_iconst (jm_dc dc_123_0 18 rfl) (by decide)) (
  jm_gc (pu_ibin _) (sn_isub (jm_dc dc_123_0 19 rfl)) (
  jm_gc (pu_istore _ _) (sn_istore (jm_dc dc_123_0 20 rfl)) (
  jm_gc (pu_iload _ _) (sn_iload (jm_dc dc_123_0 21 rfl)) (
  jm_gc (pu_iflt _) (sn_iflt (jm_dc dc_123_0 22 rfl) (by decide)) (
  jm_gc (pu_aload _ _) (sn_aload_n (i := 0) (jm_dc dc_123_0 23 rfl)) (
  jm_gc (pu_getA _ _) (sn_getA (jm_dc dc_123_0 24 rfl) fl_10_10 rfl) (
  jm_gn)))))))))))))))))))))))))
theorem dc_123_1 : ([(46, .lload_n 1, 1), (47, .bipush 8, 2), (49, .iload 4, 2), (51, .imul, 1), (52, .lushr, 1), (53, .l2i, 1), (54, .sipush 255, 3), (57, .iand, 1), (58, .invokevirtual 84, 3), (61, .iinc 4 (-1), 3), (64, .goto (-27), 3), (67, .aload_n 0, 1), (68, .getfield 10, 3), (71, .getfield 80, 3), (74, .ireturn, 1)] : List (Nat × Instr × Nat)).all (fun e => decide (decode prog_1_method_2_code e.1 = .ok e.2)) = true := by decide +kernel
abbrev cl_123_1 : List (Nat × jm_O) := [(46, op_lload 1 1), (47, op_ic 8 2), (49, op_iload 4 2), (51, op_ibin (fun x y => x * y)), (52, op_lsh (fun x y => (x.toUInt64 >>> (y.toInt64.toUInt64 &&& Int64.toUInt64 63)).toInt64)), (53, op_l2i), (54, op_ic 255 3), (57, op_ibin (fun x y => x &&& y)), (58, op_callV 8 95 2), (61, op_iinc 4 (-1)), (64, op_goto 37), (67, op_aload 0 1), (68, op_getA 10 0), (71, op_getI 8 0), (74, op_iret)]
set_option maxRecDepth 100000 in
theorem gl_123_1 : jm_gl "FrescoWall" prog_1_method_2_code 5 (Option.some Jvm.ClassFile.FieldType.int) false cl_123_1 :=
  jm_gc (pu_lload _ _) (sn_lload_n (i := 1) (jm_dc dc_123_1 0 rfl)) (
  jm_gc (pu_ic _ _) (sn_bipush (jm_dc dc_123_1 1 rfl) (by decide)) (
  jm_gc (pu_iload _ _) (sn_iload (jm_dc dc_123_1 2 rfl)) (
  jm_gc (pu_ibin _) (sn_imul (jm_dc dc_123_1 3 rfl)) (
  jm_gc (pu_lsh _) (sn_lushr (jm_dc dc_123_1 4 rfl)) (
  jm_gc (pu_l2i) (sn_l2i (jm_dc dc_123_1 5 rfl)) (
  jm_gc (pu_ic _ _) (sn_sipush (jm_dc dc_123_1 6 rfl) (by decide)) (
  jm_gc (pu_ibin _) (sn_iand (jm_dc dc_123_1 7 rfl)) (
  jm_gc (pu_callV _ _ _) (sn_callV (jm_dc dc_123_1 8 rfl) lk_10_84) (
  jm_gc (pu_iinc _ _) (sn_iinc (jm_dc dc_123_1 9 rfl) (by decide)) (
  jm_gc (pu_goto _) (sn_goto (jm_dc dc_123_1 10 rfl) (by decide)) (
  jm_gc (pu_aload _ _) (sn_aload_n (i := 0) (jm_dc dc_123_1 11 rfl)) (
  jm_gc (pu_getA _ _) (sn_getA (jm_dc dc_123_1 12 rfl) fl_10_10 rfl) (
  jm_gc (pu_getI _ _) (sn_getI (jm_dc dc_123_1 13 rfl) fl_10_80 (Or.inl rfl)) (
  jm_gc (pu_iret) (sn_iret (jm_dc dc_123_1 14 rfl) rfl) (
  jm_gn)))))))))))))))
theorem dc_124_0 : ([(0, .iload_n 1, 1), (1, .iconst 1, 1), (2, .if_icmp .lt 29, 3), (5, .iload_n 1, 1), (6, .bipush 99, 2), (8, .if_icmp .gt 23, 3), (11, .iload_n 2, 1), (12, .iconst (-1), 1), (13, .if_icmp .lt 18, 3), (16, .iload_n 2, 1), (17, .iconst 3, 1), (18, .if_icmp .gt 13, 3), (21, .iload_n 3, 1), (22, .ifCond .lt 9, 3), (25, .iload_n 3, 1), (26, .bipush 9, 2), (28, .if_icmp .le 6, 3), (31, .bipush (-2), 2), (33, .ireturn, 1), (34, .aload_n 0, 1), (35, .getfield 28, 3), (38, .getfield 88, 3), (41, .bipush 30, 2), (43, .if_icmp .ne 6, 3), (46, .bipush (-4), 2)] : List (Nat × Instr × Nat)).all (fun e => decide (decode prog_1_method_3_code e.1 = .ok e.2)) = true := by decide +kernel
abbrev cl_124_0 : List (Nat × jm_O) := [(0, op_iload 1 1), (1, op_ic 1 1), (2, op_clt 31), (5, op_iload 1 1), (6, op_ic 99 2), (8, op_cgt 31), (11, op_iload 2 1), (12, op_ic (-1) 1), (13, op_clt 31), (16, op_iload 2 1), (17, op_ic 3 1), (18, op_cgt 31), (21, op_iload 3 1), (22, op_iflt 31), (25, op_iload 3 1), (26, op_ic 9 2), (28, op_cle 34), (31, op_ic (-2) 2), (33, op_iret), (34, op_aload 0 1), (35, op_getA 10 2), (38, op_getI 3 1), (41, op_ic 30 2), (43, op_cne 49), (46, op_ic (-4) 2)]
set_option maxRecDepth 100000 in
theorem gl_124_0 : jm_gl "FrescoWall" prog_1_method_3_code 6 (Option.some Jvm.ClassFile.FieldType.int) false cl_124_0 :=
  jm_gc (pu_iload _ _) (sn_iload_n (i := 1) (jm_dc dc_124_0 0 rfl)) (
  jm_gc (pu_ic _ _) (sn_iconst (jm_dc dc_124_0 1 rfl) (by decide)) (
  jm_gc (pu_clt _) (sn_clt (jm_dc dc_124_0 2 rfl) (by decide)) (
  jm_gc (pu_iload _ _) (sn_iload_n (i := 1) (jm_dc dc_124_0 3 rfl)) (
  jm_gc (pu_ic _ _) (sn_bipush (jm_dc dc_124_0 4 rfl) (by decide)) (
  jm_gc (pu_cgt _) (sn_cgt (jm_dc dc_124_0 5 rfl) (by decide)) (
  jm_gc (pu_iload _ _) (sn_iload_n (i := 2) (jm_dc dc_124_0 6 rfl)) (
  jm_gc (pu_ic _ _) (sn_iconst (jm_dc dc_124_0 7 rfl) (by decide)) (
  jm_gc (pu_clt _) (sn_clt (jm_dc dc_124_0 8 rfl) (by decide)) (
  jm_gc (pu_iload _ _) (sn_iload_n (i := 2) (jm_dc dc_124_0 9 rfl)) (
  jm_gc (pu_ic _ _) (sn_iconst (jm_dc dc_124_0 10 rfl) (by decide)) (
  jm_gc (pu_cgt _) (sn_cgt (jm_dc dc_124_0 11 rfl) (by decide)) (
  jm_gc (pu_iload _ _) (sn_iload_n (i := 3) (jm_dc dc_124_0 12 rfl)) (
  jm_gc (pu_iflt _) (sn_iflt (jm_dc dc_124_0 13 rfl) (by decide)) (
  jm_gc (pu_iload _ _) (sn_iload_n (i := 3) (jm_dc dc_124_0 14 rfl)) (
  jm_gc (pu_ic _ _) (sn_bipush (jm_dc dc_124_0 15 rfl) (by decide)) (
  jm_gc (pu_cle _) (sn_cle (jm_dc dc_124_0 16 rfl) (by decide)) (
  jm_gc (pu_ic _ _) (sn_bipush (jm_dc dc_124_0 17 rfl) (by decide)) (
  jm_gc (pu_iret) (sn_iret (jm_dc dc_124_0 18 rfl) rfl) (
  jm_gc (pu_aload _ _) (sn_aload_n (i := 0) (jm_dc dc_124_0 19 rfl)) (
  jm_gc (pu_getA _ _) (sn_getA (jm_dc dc_124_0 20 rfl) fl_10_28 rfl) (
  jm_gc (pu_getI _ _) (sn_getI (jm_dc dc_124_0 21 rfl) fl_10_88 (Or.inl rfl)) (
  jm_gc (pu_ic _ _) (sn_bipush (jm_dc dc_124_0 22 rfl) (by decide)) (
  jm_gc (pu_cne _) (sn_cne (jm_dc dc_124_0 23 rfl) (by decide)) (
  jm_gc (pu_ic _ _) (sn_bipush (jm_dc dc_124_0 24 rfl) (by decide)) (
  jm_gn)))))))))))))))))))))))))
theorem dc_124_1 : ([(48, .ireturn, 1), (49, .aload_n 0, 1), (50, .getfield 21, 3), (53, .invokevirtual 91, 3), (56, .istore 4, 2), (58, .aload_n 0, 1), (59, .getfield 10, 3), (62, .iconst 0, 1), (63, .putfield 80, 3), (66, .iload 4, 2), (68, .ifCond .lt 9, 3), (71, .bipush (-10), 2), (73, .iload 4, 2), (75, .isub, 1), (76, .ireturn, 1), (77, .aload_n 0, 1), (78, .getfield 21, 3), (81, .invokevirtual 95, 3), (84, .ifCond .ne 6, 3), (87, .bipush (-5), 2), (89, .ireturn, 1), (90, .aload_n 0, 1), (91, .getfield 21, 3), (94, .invokevirtual 99, 3), (97, .ifCond .ne 6, 3)] : List (Nat × Instr × Nat)).all (fun e => decide (decode prog_1_method_3_code e.1 = .ok e.2)) = true := by decide +kernel
abbrev cl_124_1 : List (Nat × jm_O) := [(48, op_iret), (49, op_aload 0 1), (50, op_getA 10 1), (53, op_callV 7 78 1), (56, op_istore 4 2), (58, op_aload 0 1), (59, op_getA 10 0), (62, op_ic 0 1), (63, op_putI 8 0), (66, op_iload 4 2), (68, op_iflt 77), (71, op_ic (-10) 2), (73, op_iload 4 2), (75, op_ibin (fun x y => x - y)), (76, op_iret), (77, op_aload 0 1), (78, op_getA 10 1), (81, op_callV 7 82 1), (84, op_ifne 90), (87, op_ic (-5) 2), (89, op_iret), (90, op_aload 0 1), (91, op_getA 10 1), (94, op_callV 7 93 1), (97, op_ifne 103)]
set_option maxRecDepth 100000 in
theorem gl_124_1 : jm_gl "FrescoWall" prog_1_method_3_code 6 (Option.some Jvm.ClassFile.FieldType.int) false cl_124_1 :=
  jm_gc (pu_iret) (sn_iret (jm_dc dc_124_1 0 rfl) rfl) (
  jm_gc (pu_aload _ _) (sn_aload_n (i := 0) (jm_dc dc_124_1 1 rfl)) (
  jm_gc (pu_getA _ _) (sn_getA (jm_dc dc_124_1 2 rfl) fl_10_21 rfl) (
  jm_gc (pu_callV _ _ _) (sn_callV (jm_dc dc_124_1 3 rfl) lk_10_91) (
  jm_gc (pu_istore _ _) (sn_istore (jm_dc dc_124_1 4 rfl)) (
  jm_gc (pu_aload _ _) (sn_aload_n (i := 0) (jm_dc dc_124_1 5 rfl)) (
  jm_gc (pu_getA _ _) (sn_getA (jm_dc dc_124_1 6 rfl) fl_10_10 rfl) (
  jm_gc (pu_ic _ _) (sn_iconst (jm_dc dc_124_1 7 rfl) (by decide)) (
  jm_gc (pu_putI _ _) (sn_putI (jm_dc dc_124_1 8 rfl) flw_10_80 rfl) (
  jm_gc (pu_iload _ _) (sn_iload (jm_dc dc_124_1 9 rfl)) (
  jm_gc (pu_iflt _) (sn_iflt (jm_dc dc_124_1 10 rfl) (by decide)) (
  jm_gc (pu_ic _ _) (sn_bipush (jm_dc dc_124_1 11 rfl) (by decide)) (
  jm_gc (pu_iload _ _) (sn_iload (jm_dc dc_124_1 12 rfl)) (
  jm_gc (pu_ibin _) (sn_isub (jm_dc dc_124_1 13 rfl)) (
  jm_gc (pu_iret) (sn_iret (jm_dc dc_124_1 14 rfl) rfl) (
  jm_gc (pu_aload _ _) (sn_aload_n (i := 0) (jm_dc dc_124_1 15 rfl)) (
  jm_gc (pu_getA _ _) (sn_getA (jm_dc dc_124_1 16 rfl) fl_10_21 rfl) (
  jm_gc (pu_callV _ _ _) (sn_callV (jm_dc dc_124_1 17 rfl) lk_10_95) (
  jm_gc (pu_ifne _) (sn_ifne (jm_dc dc_124_1 18 rfl) (by decide)) (
  jm_gc (pu_ic _ _) (sn_bipush (jm_dc dc_124_1 19 rfl) (by decide)) (
  jm_gc (pu_iret) (sn_iret (jm_dc dc_124_1 20 rfl) rfl) (
  jm_gc (pu_aload _ _) (sn_aload_n (i := 0) (jm_dc dc_124_1 21 rfl)) (
  jm_gc (pu_getA _ _) (sn_getA (jm_dc dc_124_1 22 rfl) fl_10_21 rfl) (
  jm_gc (pu_callV _ _ _) (sn_callV (jm_dc dc_124_1 23 rfl) lk_10_99) (
  jm_gc (pu_ifne _) (sn_ifne (jm_dc dc_124_1 24 rfl) (by decide)) (
  jm_gn)))))))))))))))))))))))))
theorem dc_124_2 : ([(100, .bipush (-6), 2), (102, .ireturn, 1), (103, .aload_n 0, 1), (104, .getfield 28, 3), (107, .getfield 88, 3), (110, .istore 5, 2), (112, .aload_n 0, 1), (113, .getfield 28, 3), (116, .new 102, 3), (119, .dup, 1), (120, .aload_n 0, 1), (121, .getfield 21, 3), (124, .iload_n 1, 1), (125, .iload_n 2, 1), (126, .iload_n 3, 1), (127, .invokespecial 104, 3), (130, .invokevirtual 107, 3), (133, .aload_n 0, 1), (134, .getfield 35, 3), (137, .iload 5, 2), (139, .invokevirtual 111, 3), (142, .iload 5, 2), (144, .ireturn, 1)] : List (Nat × Instr × Nat)).all (fun e => decide (decode prog_1_method_3_code e.1 = .ok e.2)) = true := by decide +kernel
abbrev cl_124_2 : List (Nat × jm_O) := [(100, op_ic (-6) 2), (102, op_iret), (103, op_aload 0 1), (104, op_getA 10 2), (107, op_getI 3 1), (110, op_istore 5 2), (112, op_aload 0 1), (113, op_getA 10 2), (116, op_new 1 14), (119, op_dup), (120, op_aload 0 1), (121, op_getA 10 1), (124, op_iload 1 1), (125, op_iload 2 1), (126, op_iload 3 1), (127, op_callV 1 13 5), (130, op_callV 3 30 2), (133, op_aload 0 1), (134, op_getA 10 3), (137, op_iload 5 2), (139, op_callV 4 41 2), (142, op_iload 5 2), (144, op_iret)]
set_option maxRecDepth 100000 in
theorem gl_124_2 : jm_gl "FrescoWall" prog_1_method_3_code 6 (Option.some Jvm.ClassFile.FieldType.int) false cl_124_2 :=
  jm_gc (pu_ic _ _) (sn_bipush (jm_dc dc_124_2 0 rfl) (by decide)) (
  jm_gc (pu_iret) (sn_iret (jm_dc dc_124_2 1 rfl) rfl) (
  jm_gc (pu_aload _ _) (sn_aload_n (i := 0) (jm_dc dc_124_2 2 rfl)) (
  jm_gc (pu_getA _ _) (sn_getA (jm_dc dc_124_2 3 rfl) fl_10_28 rfl) (
  jm_gc (pu_getI _ _) (sn_getI (jm_dc dc_124_2 4 rfl) fl_10_88 (Or.inl rfl)) (
  jm_gc (pu_istore _ _) (sn_istore (jm_dc dc_124_2 5 rfl)) (
  jm_gc (pu_aload _ _) (sn_aload_n (i := 0) (jm_dc dc_124_2 6 rfl)) (
  jm_gc (pu_getA _ _) (sn_getA (jm_dc dc_124_2 7 rfl) fl_10_28 rfl) (
  jm_gc (pu_new _ _) (sn_new (jm_dc dc_124_2 8 rfl) nw_10_102) (
  jm_gc (pu_dup) (sn_dup (jm_dc dc_124_2 9 rfl)) (
  jm_gc (pu_aload _ _) (sn_aload_n (i := 0) (jm_dc dc_124_2 10 rfl)) (
  jm_gc (pu_getA _ _) (sn_getA (jm_dc dc_124_2 11 rfl) fl_10_21 rfl) (
  jm_gc (pu_iload _ _) (sn_iload_n (i := 1) (jm_dc dc_124_2 12 rfl)) (
  jm_gc (pu_iload _ _) (sn_iload_n (i := 2) (jm_dc dc_124_2 13 rfl)) (
  jm_gc (pu_iload _ _) (sn_iload_n (i := 3) (jm_dc dc_124_2 14 rfl)) (
  jm_gc (pu_callV _ _ _) (sn_callI (jm_dc dc_124_2 15 rfl) lk_10_104) (
  jm_gc (pu_callV _ _ _) (sn_callV (jm_dc dc_124_2 16 rfl) lk_10_107) (
  jm_gc (pu_aload _ _) (sn_aload_n (i := 0) (jm_dc dc_124_2 17 rfl)) (
  jm_gc (pu_getA _ _) (sn_getA (jm_dc dc_124_2 18 rfl) fl_10_35 rfl) (
  jm_gc (pu_iload _ _) (sn_iload (jm_dc dc_124_2 19 rfl)) (
  jm_gc (pu_callV _ _ _) (sn_callV (jm_dc dc_124_2 20 rfl) lk_10_111) (
  jm_gc (pu_iload _ _) (sn_iload (jm_dc dc_124_2 21 rfl)) (
  jm_gc (pu_iret) (sn_iret (jm_dc dc_124_2 22 rfl) rfl) (
  jm_gn)))))))))))))))))))))))
theorem dc_125_0 : ([(0, .aload_n 0, 1), (1, .iload_n 1, 1), (2, .invokevirtual 113, 3), (5, .ifCond .ne 6, 3), (8, .ldc 117, 2), (10, .ireturn, 1), (11, .aload_n 0, 1), (12, .getfield 28, 3), (15, .getfield 118, 3), (18, .iload_n 1, 1), (19, .aaload, 1), (20, .astore_n 3, 1), (21, .iload_n 2, 1), (22, .tableswitch 77 0 6 #[42, 47, 52, 57, 62, 67, 72], 42), (64, .aload_n 3, 1), (65, .getfield 122, 3), (68, .ireturn, 1), (69, .aload_n 3, 1), (70, .getfield 125, 3), (73, .ireturn, 1), (74, .aload_n 3, 1), (75, .getfield 128, 3), (78, .ireturn, 1), (79, .aload_n 3, 1), (80, .getfield 131, 3)] : List (Nat × Instr × Nat)).all (fun e => decide (decode prog_1_method_4_code e.1 = .ok e.2)) = true := by decide +kernel
abbrev cl_125_0 : List (Nat × jm_O) := [(0, op_aload 0 1), (1, op_iload 1 1), (2, op_callV 10 160 2), (5, op_ifne 11), (8, op_ic (-100000) 2), (10, op_iret), (11, op_aload 0 1), (12, op_getA 10 2), (15, op_getA 3 0), (18, op_iload 1 1), (19, op_aald), (20, op_astore 3 1), (21, op_iload 2 1), (22, op_sw 99 [(0, 64), (1, 69), (2, 74), (3, 79), (4, 84), (5, 89), (6, 94)]), (64, op_aload 3 1), (65, op_getI 1 3), (68, op_iret), (69, op_aload 3 1), (70, op_getI 1 11), (73, op_iret), (74, op_aload 3 1), (75, op_getI 1 12), (78, op_iret), (79, op_aload 3 1), (80, op_getI 1 7)]
set_option maxRecDepth 100000 in
theorem gl_125_0 : jm_gl "FrescoWall" prog_1_method_4_code 4 (Option.some Jvm.ClassFile.FieldType.int) false cl_125_0 :=
  jm_gc (pu_aload _ _) (sn_aload_n (i := 0) (jm_dc dc_125_0 0 rfl)) (
  jm_gc (pu_iload _ _) (sn_iload_n (i := 1) (jm_dc dc_125_0 1 rfl)) (
  jm_gc (pu_callV _ _ _) (sn_callV (jm_dc dc_125_0 2 rfl) lk_10_113) (
  jm_gc (pu_ifne _) (sn_ifne (jm_dc dc_125_0 3 rfl) (by decide)) (
  jm_gc (pu_ic _ _) (sn_ldc (jm_dc dc_125_0 4 rfl) (kc_tb 622 (by decide +kernel))) (
  jm_gc (pu_iret) (sn_iret (jm_dc dc_125_0 5 rfl) rfl) (
  jm_gc (pu_aload _ _) (sn_aload_n (i := 0) (jm_dc dc_125_0 6 rfl)) (
  jm_gc (pu_getA _ _) (sn_getA (jm_dc dc_125_0 7 rfl) fl_10_28 rfl) (
  jm_gc (pu_getA _ _) (sn_getA (jm_dc dc_125_0 8 rfl) fl_10_118 rfl) (
  jm_gc (pu_iload _ _) (sn_iload_n (i := 1) (jm_dc dc_125_0 9 rfl)) (
  jm_gc (pu_aald) (sn_aald (jm_dc dc_125_0 10 rfl)) (
  jm_gc (pu_astore _ _) (sn_astore_n (i := 3) (jm_dc dc_125_0 11 rfl)) (
  jm_gc (pu_iload _ _) (sn_iload_n (i := 2) (jm_dc dc_125_0 12 rfl)) (
  jm_gc (pu_sw _ _) (sn_tsw (jm_dc dc_125_0 13 rfl) (by decide) (by decide) (by decide)) (
  jm_gc (pu_aload _ _) (sn_aload_n (i := 3) (jm_dc dc_125_0 14 rfl)) (
  jm_gc (pu_getI _ _) (sn_getI (jm_dc dc_125_0 15 rfl) fl_10_122 (Or.inl rfl)) (
  jm_gc (pu_iret) (sn_iret (jm_dc dc_125_0 16 rfl) rfl) (
  jm_gc (pu_aload _ _) (sn_aload_n (i := 3) (jm_dc dc_125_0 17 rfl)) (
  jm_gc (pu_getI _ _) (sn_getI (jm_dc dc_125_0 18 rfl) fl_10_125 (Or.inl rfl)) (
  jm_gc (pu_iret) (sn_iret (jm_dc dc_125_0 19 rfl) rfl) (
  jm_gc (pu_aload _ _) (sn_aload_n (i := 3) (jm_dc dc_125_0 20 rfl)) (
  jm_gc (pu_getI _ _) (sn_getI (jm_dc dc_125_0 21 rfl) fl_10_128 (Or.inl rfl)) (
  jm_gc (pu_iret) (sn_iret (jm_dc dc_125_0 22 rfl) rfl) (
  jm_gc (pu_aload _ _) (sn_aload_n (i := 3) (jm_dc dc_125_0 23 rfl)) (
  jm_gc (pu_getI _ _) (sn_getI (jm_dc dc_125_0 24 rfl) fl_10_131 (Or.inl rfl)) (
  jm_gn)))))))))))))))))))))))))
theorem dc_125_1 : ([(83, .ireturn, 1), (84, .aload_n 3, 1), (85, .getfield 134, 3), (88, .ireturn, 1), (89, .aload_n 3, 1), (90, .getfield 137, 3), (93, .ireturn, 1), (94, .aload_n 3, 1), (95, .getfield 140, 3), (98, .ireturn, 1), (99, .ldc 117, 2), (101, .ireturn, 1)] : List (Nat × Instr × Nat)).all (fun e => decide (decode prog_1_method_4_code e.1 = .ok e.2)) = true := by decide +kernel
abbrev cl_125_1 : List (Nat × jm_O) := [(83, op_iret), (84, op_aload 3 1), (85, op_getI 1 0), (88, op_iret), (89, op_aload 3 1), (90, op_getI 1 1), (93, op_iret), (94, op_aload 3 1), (95, op_getI 1 2), (98, op_iret), (99, op_ic (-100000) 2), (101, op_iret)]
set_option maxRecDepth 100000 in
theorem gl_125_1 : jm_gl "FrescoWall" prog_1_method_4_code 4 (Option.some Jvm.ClassFile.FieldType.int) false cl_125_1 :=
  jm_gc (pu_iret) (sn_iret (jm_dc dc_125_1 0 rfl) rfl) (
  jm_gc (pu_aload _ _) (sn_aload_n (i := 3) (jm_dc dc_125_1 1 rfl)) (
  jm_gc (pu_getI _ _) (sn_getI (jm_dc dc_125_1 2 rfl) fl_10_134 (Or.inl rfl)) (
  jm_gc (pu_iret) (sn_iret (jm_dc dc_125_1 3 rfl) rfl) (
  jm_gc (pu_aload _ _) (sn_aload_n (i := 3) (jm_dc dc_125_1 4 rfl)) (
  jm_gc (pu_getI _ _) (sn_getI (jm_dc dc_125_1 5 rfl) fl_10_137 (Or.inl rfl)) (
  jm_gc (pu_iret) (sn_iret (jm_dc dc_125_1 6 rfl) rfl) (
  jm_gc (pu_aload _ _) (sn_aload_n (i := 3) (jm_dc dc_125_1 7 rfl)) (
  jm_gc (pu_getI _ _) (sn_getI (jm_dc dc_125_1 8 rfl) fl_10_140 (Or.inl rfl)) (
  jm_gc (pu_iret) (sn_iret (jm_dc dc_125_1 9 rfl) rfl) (
  jm_gc (pu_ic _ _) (sn_ldc (jm_dc dc_125_1 10 rfl) (kc_tb 622 (by decide +kernel))) (
  jm_gc (pu_iret) (sn_iret (jm_dc dc_125_1 11 rfl) rfl) (
  jm_gn))))))))))))
theorem dc_126_0 : ([(0, .aload_n 0, 1), (1, .iload_n 1, 1), (2, .iload_n 2, 1), (3, .invokevirtual 143, 3), (6, .ifCond .ne 6, 3), (9, .ldc 117, 2), (11, .ireturn, 1), (12, .aload_n 0, 1), (13, .getfield 28, 3), (16, .getfield 118, 3), (19, .iload_n 1, 1), (20, .aaload, 1), (21, .astore 4, 2), (23, .iload_n 3, 1), (24, .tableswitch 52 0 2 #[28, 36, 44], 28), (52, .aload 4, 2), (54, .getfield 147, 3), (57, .iload_n 2, 1), (58, .iaload, 1), (59, .ireturn, 1), (60, .aload 4, 2), (62, .getfield 151, 3), (65, .iload_n 2, 1), (66, .iaload, 1), (67, .ireturn, 1)] : List (Nat × Instr × Nat)).all (fun e => decide (decode prog_1_method_5_code e.1 = .ok e.2)) = true := by decide +kernel
abbrev cl_126_0 : List (Nat × jm_O) := [(0, op_aload 0 1), (1, op_iload 1 1), (2, op_iload 2 1), (3, op_callV 10 161 3), (6, op_ifne 12), (9, op_ic (-100000) 2), (11, op_iret), (12, op_aload 0 1), (13, op_getA 10 2), (16, op_getA 3 0), (19, op_iload 1 1), (20, op_aald), (21, op_astore 4 2), (23, op_iload 3 1), (24, op_sw 76 [(0, 52), (1, 60), (2, 68)]), (52, op_aload 4 2), (54, op_getA 1 4), (57, op_iload 2 1), (58, op_iald 13), (59, op_iret), (60, op_aload 4 2), (62, op_getA 1 5), (65, op_iload 2 1), (66, op_iald 13), (67, op_iret)]
set_option maxRecDepth 100000 in
theorem gl_126_0 : jm_gl "FrescoWall" prog_1_method_5_code 5 (Option.some Jvm.ClassFile.FieldType.int) false cl_126_0 :=
  jm_gc (pu_aload _ _) (sn_aload_n (i := 0) (jm_dc dc_126_0 0 rfl)) (
  jm_gc (pu_iload _ _) (sn_iload_n (i := 1) (jm_dc dc_126_0 1 rfl)) (
  jm_gc (pu_iload _ _) (sn_iload_n (i := 2) (jm_dc dc_126_0 2 rfl)) (
  jm_gc (pu_callV _ _ _) (sn_callV (jm_dc dc_126_0 3 rfl) lk_10_143) (
  jm_gc (pu_ifne _) (sn_ifne (jm_dc dc_126_0 4 rfl) (by decide)) (
  jm_gc (pu_ic _ _) (sn_ldc (jm_dc dc_126_0 5 rfl) (kc_tb 622 (by decide +kernel))) (
  jm_gc (pu_iret) (sn_iret (jm_dc dc_126_0 6 rfl) rfl) (
  jm_gc (pu_aload _ _) (sn_aload_n (i := 0) (jm_dc dc_126_0 7 rfl)) (
  jm_gc (pu_getA _ _) (sn_getA (jm_dc dc_126_0 8 rfl) fl_10_28 rfl) (
  jm_gc (pu_getA _ _) (sn_getA (jm_dc dc_126_0 9 rfl) fl_10_118 rfl) (
  jm_gc (pu_iload _ _) (sn_iload_n (i := 1) (jm_dc dc_126_0 10 rfl)) (
  jm_gc (pu_aald) (sn_aald (jm_dc dc_126_0 11 rfl)) (
  jm_gc (pu_astore _ _) (sn_astore (jm_dc dc_126_0 12 rfl)) (
  jm_gc (pu_iload _ _) (sn_iload_n (i := 3) (jm_dc dc_126_0 13 rfl)) (
  jm_gc (pu_sw _ _) (sn_tsw (jm_dc dc_126_0 14 rfl) (by decide) (by decide) (by decide)) (
  jm_gc (pu_aload _ _) (sn_aload (jm_dc dc_126_0 15 rfl)) (
  jm_gc (pu_getA _ _) (sn_getA (jm_dc dc_126_0 16 rfl) fl_10_147 rfl) (
  jm_gc (pu_iload _ _) (sn_iload_n (i := 2) (jm_dc dc_126_0 17 rfl)) (
  jm_gc (pu_iald _) (sn_iald (jm_dc dc_126_0 18 rfl)) (
  jm_gc (pu_iret) (sn_iret (jm_dc dc_126_0 19 rfl) rfl) (
  jm_gc (pu_aload _ _) (sn_aload (jm_dc dc_126_0 20 rfl)) (
  jm_gc (pu_getA _ _) (sn_getA (jm_dc dc_126_0 21 rfl) fl_10_151 rfl) (
  jm_gc (pu_iload _ _) (sn_iload_n (i := 2) (jm_dc dc_126_0 22 rfl)) (
  jm_gc (pu_iald _) (sn_iald (jm_dc dc_126_0 23 rfl)) (
  jm_gc (pu_iret) (sn_iret (jm_dc dc_126_0 24 rfl) rfl) (
  jm_gn)))))))))))))))))))))))))
theorem dc_126_1 : ([(68, .aload 4, 2), (70, .getfield 154, 3), (73, .iload_n 2, 1), (74, .iaload, 1), (75, .ireturn, 1), (76, .ldc 117, 2), (78, .ireturn, 1)] : List (Nat × Instr × Nat)).all (fun e => decide (decode prog_1_method_5_code e.1 = .ok e.2)) = true := by decide +kernel
abbrev cl_126_1 : List (Nat × jm_O) := [(68, op_aload 4 2), (70, op_getA 1 6), (73, op_iload 2 1), (74, op_iald 13), (75, op_iret), (76, op_ic (-100000) 2), (78, op_iret)]
set_option maxRecDepth 100000 in
theorem gl_126_1 : jm_gl "FrescoWall" prog_1_method_5_code 5 (Option.some Jvm.ClassFile.FieldType.int) false cl_126_1 :=
  jm_gc (pu_aload _ _) (sn_aload (jm_dc dc_126_1 0 rfl)) (
  jm_gc (pu_getA _ _) (sn_getA (jm_dc dc_126_1 1 rfl) fl_10_154 rfl) (
  jm_gc (pu_iload _ _) (sn_iload_n (i := 2) (jm_dc dc_126_1 2 rfl)) (
  jm_gc (pu_iald _) (sn_iald (jm_dc dc_126_1 3 rfl)) (
  jm_gc (pu_iret) (sn_iret (jm_dc dc_126_1 4 rfl) rfl) (
  jm_gc (pu_ic _ _) (sn_ldc (jm_dc dc_126_1 5 rfl) (kc_tb 622 (by decide +kernel))) (
  jm_gc (pu_iret) (sn_iret (jm_dc dc_126_1 6 rfl) rfl) (
  jm_gn)))))))
theorem dc_127_0 : ([(0, .aload_n 0, 1), (1, .iload_n 1, 1), (2, .invokevirtual 113, 3), (5, .ifCond .eq 11, 3), (8, .aload_n 0, 1), (9, .iload_n 2, 1), (10, .invokevirtual 113, 3), (13, .ifCond .ne 5, 3), (16, .iconst (-1), 1), (17, .ireturn, 1), (18, .iload_n 1, 1), (19, .iload_n 2, 1), (20, .if_icmp .eq 14, 3), (23, .iload_n 3, 1), (24, .iload 4, 2), (26, .iload 5, 2), (28, .invokestatic 157, 3), (31, .ifCond .ne 6, 3), (34, .bipush (-2), 2), (36, .ireturn, 1), (37, .aload_n 0, 1), (38, .getfield 28, 3), (41, .getfield 118, 3), (44, .iload_n 1, 1), (45, .aaload, 1)] : List (Nat × Instr × Nat)).all (fun e => decide (decode prog_1_method_6_code e.1 = .ok e.2)) = true := by decide +kernel
abbrev cl_127_0 : List (Nat × jm_O) := [(0, op_aload 0 1), (1, op_iload 1 1), (2, op_callV 10 160 2), (5, op_ifeq 16), (8, op_aload 0 1), (9, op_iload 2 1), (10, op_callV 10 160 2), (13, op_ifne 18), (16, op_ic (-1) 1), (17, op_iret), (18, op_iload 1 1), (19, op_iload 2 1), (20, op_ceq 34), (23, op_iload 3 1), (24, op_iload 4 2), (26, op_iload 5 2), (28, op_callS 166 3), (31, op_ifne 37), (34, op_ic (-2) 2), (36, op_iret), (37, op_aload 0 1), (38, op_getA 10 2), (41, op_getA 3 0), (44, op_iload 1 1), (45, op_aald)]
set_option maxRecDepth 100000 in
theorem gl_127_0 : jm_gl "FrescoWall" prog_1_method_6_code 6 (Option.some Jvm.ClassFile.FieldType.int) false cl_127_0 :=
  jm_gc (pu_aload _ _) (sn_aload_n (i := 0) (jm_dc dc_127_0 0 rfl)) (
  jm_gc (pu_iload _ _) (sn_iload_n (i := 1) (jm_dc dc_127_0 1 rfl)) (
  jm_gc (pu_callV _ _ _) (sn_callV (jm_dc dc_127_0 2 rfl) lk_10_113) (
  jm_gc (pu_ifeq _) (sn_ifeq (jm_dc dc_127_0 3 rfl) (by decide)) (
  jm_gc (pu_aload _ _) (sn_aload_n (i := 0) (jm_dc dc_127_0 4 rfl)) (
  jm_gc (pu_iload _ _) (sn_iload_n (i := 2) (jm_dc dc_127_0 5 rfl)) (
  jm_gc (pu_callV _ _ _) (sn_callV (jm_dc dc_127_0 6 rfl) lk_10_113) (
  jm_gc (pu_ifne _) (sn_ifne (jm_dc dc_127_0 7 rfl) (by decide)) (
  jm_gc (pu_ic _ _) (sn_iconst (jm_dc dc_127_0 8 rfl) (by decide)) (
  jm_gc (pu_iret) (sn_iret (jm_dc dc_127_0 9 rfl) rfl) (
  jm_gc (pu_iload _ _) (sn_iload_n (i := 1) (jm_dc dc_127_0 10 rfl)) (
  jm_gc (pu_iload _ _) (sn_iload_n (i := 2) (jm_dc dc_127_0 11 rfl)) (
  jm_gc (pu_ceq _) (sn_ceq (jm_dc dc_127_0 12 rfl) (by decide)) (
  jm_gc (pu_iload _ _) (sn_iload_n (i := 3) (jm_dc dc_127_0 13 rfl)) (
  jm_gc (pu_iload _ _) (sn_iload (jm_dc dc_127_0 14 rfl)) (
  jm_gc (pu_iload _ _) (sn_iload (jm_dc dc_127_0 15 rfl)) (
  jm_gc (pu_callS _ _) (sn_callS (jm_dc dc_127_0 16 rfl) lk_10_157) (
  jm_gc (pu_ifne _) (sn_ifne (jm_dc dc_127_0 17 rfl) (by decide)) (
  jm_gc (pu_ic _ _) (sn_bipush (jm_dc dc_127_0 18 rfl) (by decide)) (
  jm_gc (pu_iret) (sn_iret (jm_dc dc_127_0 19 rfl) rfl) (
  jm_gc (pu_aload _ _) (sn_aload_n (i := 0) (jm_dc dc_127_0 20 rfl)) (
  jm_gc (pu_getA _ _) (sn_getA (jm_dc dc_127_0 21 rfl) fl_10_28 rfl) (
  jm_gc (pu_getA _ _) (sn_getA (jm_dc dc_127_0 22 rfl) fl_10_118 rfl) (
  jm_gc (pu_iload _ _) (sn_iload_n (i := 1) (jm_dc dc_127_0 23 rfl)) (
  jm_gc (pu_aald) (sn_aald (jm_dc dc_127_0 24 rfl)) (
  jm_gn)))))))))))))))))))))))))
theorem dc_127_1 : ([(46, .iconst 0, 1), (47, .aload_n 0, 1), (48, .getfield 28, 3), (51, .getfield 118, 3), (54, .iload_n 2, 1), (55, .aaload, 1), (56, .iload_n 3, 1), (57, .iload 4, 2), (59, .iload 5, 2), (61, .invokevirtual 161, 3), (64, .ireturn, 1)] : List (Nat × Instr × Nat)).all (fun e => decide (decode prog_1_method_6_code e.1 = .ok e.2)) = true := by decide +kernel
abbrev cl_127_1 : List (Nat × jm_O) := [(46, op_ic 0 1), (47, op_aload 0 1), (48, op_getA 10 2), (51, op_getA 3 0), (54, op_iload 2 1), (55, op_aald), (56, op_iload 3 1), (57, op_iload 4 2), (59, op_iload 5 2), (61, op_callV 1 16 6), (64, op_iret)]
set_option maxRecDepth 100000 in
theorem gl_127_1 : jm_gl "FrescoWall" prog_1_method_6_code 6 (Option.some Jvm.ClassFile.FieldType.int) false cl_127_1 :=
  jm_gc (pu_ic _ _) (sn_iconst (jm_dc dc_127_1 0 rfl) (by decide)) (
  jm_gc (pu_aload _ _) (sn_aload_n (i := 0) (jm_dc dc_127_1 1 rfl)) (
  jm_gc (pu_getA _ _) (sn_getA (jm_dc dc_127_1 2 rfl) fl_10_28 rfl) (
  jm_gc (pu_getA _ _) (sn_getA (jm_dc dc_127_1 3 rfl) fl_10_118 rfl) (
  jm_gc (pu_iload _ _) (sn_iload_n (i := 2) (jm_dc dc_127_1 4 rfl)) (
  jm_gc (pu_aald) (sn_aald (jm_dc dc_127_1 5 rfl)) (
  jm_gc (pu_iload _ _) (sn_iload_n (i := 3) (jm_dc dc_127_1 6 rfl)) (
  jm_gc (pu_iload _ _) (sn_iload (jm_dc dc_127_1 7 rfl)) (
  jm_gc (pu_iload _ _) (sn_iload (jm_dc dc_127_1 8 rfl)) (
  jm_gc (pu_callV _ _ _) (sn_callV (jm_dc dc_127_1 9 rfl) lk_10_161) (
  jm_gc (pu_iret) (sn_iret (jm_dc dc_127_1 10 rfl) rfl) (
  jm_gn)))))))))))
theorem dc_128_0 : ([(0, .iload_n 1, 1), (1, .ifCond .lt 9, 3), (4, .iload_n 1, 1), (5, .bipush 30, 2), (7, .if_icmp .le 6, 3), (10, .bipush (-2), 2), (12, .ireturn, 1), (13, .aload_n 0, 1), (14, .getfield 28, 3), (17, .getfield 165, 3), (20, .istore_n 2, 1), (21, .aload_n 0, 1), (22, .getfield 28, 3), (25, .iload_n 1, 1), (26, .putfield 165, 3), (29, .iload_n 2, 1), (30, .ireturn, 1)] : List (Nat × Instr × Nat)).all (fun e => decide (decode prog_1_method_7_code e.1 = .ok e.2)) = true := by decide +kernel
abbrev cl_128_0 : List (Nat × jm_O) := [(0, op_iload 1 1), (1, op_iflt 10), (4, op_iload 1 1), (5, op_ic 30 2), (7, op_cle 13), (10, op_ic (-2) 2), (12, op_iret), (13, op_aload 0 1), (14, op_getA 10 2), (17, op_getI 3 2), (20, op_istore 2 1), (21, op_aload 0 1), (22, op_getA 10 2), (25, op_iload 1 1), (26, op_putI 3 2), (29, op_iload 2 1), (30, op_iret)]
set_option maxRecDepth 100000 in
theorem gl_128_0 : jm_gl "FrescoWall" prog_1_method_7_code 3 (Option.some Jvm.ClassFile.FieldType.int) false cl_128_0 :=
  jm_gc (pu_iload _ _) (sn_iload_n (i := 1) (jm_dc dc_128_0 0 rfl)) (
  jm_gc (pu_iflt _) (sn_iflt (jm_dc dc_128_0 1 rfl) (by decide)) (
  jm_gc (pu_iload _ _) (sn_iload_n (i := 1) (jm_dc dc_128_0 2 rfl)) (
  jm_gc (pu_ic _ _) (sn_bipush (jm_dc dc_128_0 3 rfl) (by decide)) (
  jm_gc (pu_cle _) (sn_cle (jm_dc dc_128_0 4 rfl) (by decide)) (
  jm_gc (pu_ic _ _) (sn_bipush (jm_dc dc_128_0 5 rfl) (by decide)) (
  jm_gc (pu_iret) (sn_iret (jm_dc dc_128_0 6 rfl) rfl) (
  jm_gc (pu_aload _ _) (sn_aload_n (i := 0) (jm_dc dc_128_0 7 rfl)) (
  jm_gc (pu_getA _ _) (sn_getA (jm_dc dc_128_0 8 rfl) fl_10_28 rfl) (
  jm_gc (pu_getI _ _) (sn_getI (jm_dc dc_128_0 9 rfl) fl_10_165 (Or.inl rfl)) (
  jm_gc (pu_istore _ _) (sn_istore_n (i := 2) (jm_dc dc_128_0 10 rfl)) (
  jm_gc (pu_aload _ _) (sn_aload_n (i := 0) (jm_dc dc_128_0 11 rfl)) (
  jm_gc (pu_getA _ _) (sn_getA (jm_dc dc_128_0 12 rfl) fl_10_28 rfl) (
  jm_gc (pu_iload _ _) (sn_iload_n (i := 1) (jm_dc dc_128_0 13 rfl)) (
  jm_gc (pu_putI _ _) (sn_putI (jm_dc dc_128_0 14 rfl) flw_10_165 rfl) (
  jm_gc (pu_iload _ _) (sn_iload_n (i := 2) (jm_dc dc_128_0 15 rfl)) (
  jm_gc (pu_iret) (sn_iret (jm_dc dc_128_0 16 rfl) rfl) (
  jm_gn)))))))))))))))))
theorem dc_129_0 : ([(0, .iload_n 1, 1), (1, .invokestatic 168, 3), (4, .ifCond .eq 10, 3), (7, .iload_n 2, 1), (8, .invokestatic 168, 3), (11, .ifCond .ne 5, 3), (14, .iconst (-1), 1), (15, .ireturn, 1), (16, .iload_n 3, 1), (17, .invokestatic 168, 3), (20, .ifCond .ne 6, 3), (23, .bipush (-2), 2), (25, .ireturn, 1), (26, .aload_n 0, 1), (27, .getfield 28, 3), (30, .getfield 171, 3), (33, .bipush 10, 2), (35, .iload_n 1, 1), (36, .imul, 1), (37, .iload_n 2, 1), (38, .iadd, 1), (39, .iaload, 1), (40, .istore 4, 2), (42, .aload_n 0, 1), (43, .getfield 28, 3)] : List (Nat × Instr × Nat)).all (fun e => decide (decode prog_1_method_8_code e.1 = .ok e.2)) = true := by decide +kernel
abbrev cl_129_0 : List (Nat × jm_O) := [(0, op_iload 1 1), (1, op_callS 164 1), (4, op_ifeq 14), (7, op_iload 2 1), (8, op_callS 164 1), (11, op_ifne 16), (14, op_ic (-1) 1), (15, op_iret), (16, op_iload 3 1), (17, op_callS 164 1), (20, op_ifne 26), (23, op_ic (-2) 2), (25, op_iret), (26, op_aload 0 1), (27, op_getA 10 2), (30, op_getA 3 3), (33, op_ic 10 2), (35, op_iload 1 1), (36, op_ibin (fun x y => x * y)), (37, op_iload 2 1), (38, op_ibin (fun x y => x + y)), (39, op_iald 13), (40, op_istore 4 2), (42, op_aload 0 1), (43, op_getA 10 2)]
set_option maxRecDepth 100000 in
theorem gl_129_0 : jm_gl "FrescoWall" prog_1_method_8_code 5 (Option.some Jvm.ClassFile.FieldType.int) false cl_129_0 :=
  jm_gc (pu_iload _ _) (sn_iload_n (i := 1) (jm_dc dc_129_0 0 rfl)) (
  jm_gc (pu_callS _ _) (sn_callS (jm_dc dc_129_0 1 rfl) lk_10_168) (
  jm_gc (pu_ifeq _) (sn_ifeq (jm_dc dc_129_0 2 rfl) (by decide)) (
  jm_gc (pu_iload _ _) (sn_iload_n (i := 2) (jm_dc dc_129_0 3 rfl)) (
  jm_gc (pu_callS _ _) (sn_callS (jm_dc dc_129_0 4 rfl) lk_10_168) (
  jm_gc (pu_ifne _) (sn_ifne (jm_dc dc_129_0 5 rfl) (by decide)) (
  jm_gc (pu_ic _ _) (sn_iconst (jm_dc dc_129_0 6 rfl) (by decide)) (
  jm_gc (pu_iret) (sn_iret (jm_dc dc_129_0 7 rfl) rfl) (
  jm_gc (pu_iload _ _) (sn_iload_n (i := 3) (jm_dc dc_129_0 8 rfl)) (
  jm_gc (pu_callS _ _) (sn_callS (jm_dc dc_129_0 9 rfl) lk_10_168) (
  jm_gc (pu_ifne _) (sn_ifne (jm_dc dc_129_0 10 rfl) (by decide)) (
  jm_gc (pu_ic _ _) (sn_bipush (jm_dc dc_129_0 11 rfl) (by decide)) (
  jm_gc (pu_iret) (sn_iret (jm_dc dc_129_0 12 rfl) rfl) (
  jm_gc (pu_aload _ _) (sn_aload_n (i := 0) (jm_dc dc_129_0 13 rfl)) (
  jm_gc (pu_getA _ _) (sn_getA (jm_dc dc_129_0 14 rfl) fl_10_28 rfl) (
  jm_gc (pu_getA _ _) (sn_getA (jm_dc dc_129_0 15 rfl) fl_10_171 rfl) (
  jm_gc (pu_ic _ _) (sn_bipush (jm_dc dc_129_0 16 rfl) (by decide)) (
  jm_gc (pu_iload _ _) (sn_iload_n (i := 1) (jm_dc dc_129_0 17 rfl)) (
  jm_gc (pu_ibin _) (sn_imul (jm_dc dc_129_0 18 rfl)) (
  jm_gc (pu_iload _ _) (sn_iload_n (i := 2) (jm_dc dc_129_0 19 rfl)) (
  jm_gc (pu_ibin _) (sn_iadd (jm_dc dc_129_0 20 rfl)) (
  jm_gc (pu_iald _) (sn_iald (jm_dc dc_129_0 21 rfl)) (
  jm_gc (pu_istore _ _) (sn_istore (jm_dc dc_129_0 22 rfl)) (
  jm_gc (pu_aload _ _) (sn_aload_n (i := 0) (jm_dc dc_129_0 23 rfl)) (
  jm_gc (pu_getA _ _) (sn_getA (jm_dc dc_129_0 24 rfl) fl_10_28 rfl) (
  jm_gn)))))))))))))))))))))))))
theorem dc_129_1 : ([(46, .getfield 171, 3), (49, .bipush 10, 2), (51, .iload_n 1, 1), (52, .imul, 1), (53, .iload_n 2, 1), (54, .iadd, 1), (55, .iload_n 3, 1), (56, .iastore, 1), (57, .aload_n 0, 1), (58, .getfield 28, 3), (61, .getfield 171, 3), (64, .bipush 10, 2), (66, .iload_n 2, 1), (67, .imul, 1), (68, .iload_n 1, 1), (69, .iadd, 1), (70, .iload_n 3, 1), (71, .iastore, 1), (72, .iload 4, 2), (74, .ireturn, 1)] : List (Nat × Instr × Nat)).all (fun e => decide (decode prog_1_method_8_code e.1 = .ok e.2)) = true := by decide +kernel
abbrev cl_129_1 : List (Nat × jm_O) := [(46, op_getA 3 3), (49, op_ic 10 2), (51, op_iload 1 1), (52, op_ibin (fun x y => x * y)), (53, op_iload 2 1), (54, op_ibin (fun x y => x + y)), (55, op_iload 3 1), (56, op_iast), (57, op_aload 0 1), (58, op_getA 10 2), (61, op_getA 3 3), (64, op_ic 10 2), (66, op_iload 2 1), (67, op_ibin (fun x y => x * y)), (68, op_iload 1 1), (69, op_ibin (fun x y => x + y)), (70, op_iload 3 1), (71, op_iast), (72, op_iload 4 2), (74, op_iret)]
set_option maxRecDepth 100000 in
theorem gl_129_1 : jm_gl "FrescoWall" prog_1_method_8_code 5 (Option.some Jvm.ClassFile.FieldType.int) false cl_129_1 :=
  jm_gc (pu_getA _ _) (sn_getA (jm_dc dc_129_1 0 rfl) fl_10_171 rfl) (
  jm_gc (pu_ic _ _) (sn_bipush (jm_dc dc_129_1 1 rfl) (by decide)) (
  jm_gc (pu_iload _ _) (sn_iload_n (i := 1) (jm_dc dc_129_1 2 rfl)) (
  jm_gc (pu_ibin _) (sn_imul (jm_dc dc_129_1 3 rfl)) (
  jm_gc (pu_iload _ _) (sn_iload_n (i := 2) (jm_dc dc_129_1 4 rfl)) (
  jm_gc (pu_ibin _) (sn_iadd (jm_dc dc_129_1 5 rfl)) (
  jm_gc (pu_iload _ _) (sn_iload_n (i := 3) (jm_dc dc_129_1 6 rfl)) (
  jm_gc (pu_iast) (sn_iast (jm_dc dc_129_1 7 rfl)) (
  jm_gc (pu_aload _ _) (sn_aload_n (i := 0) (jm_dc dc_129_1 8 rfl)) (
  jm_gc (pu_getA _ _) (sn_getA (jm_dc dc_129_1 9 rfl) fl_10_28 rfl) (
  jm_gc (pu_getA _ _) (sn_getA (jm_dc dc_129_1 10 rfl) fl_10_171 rfl) (
  jm_gc (pu_ic _ _) (sn_bipush (jm_dc dc_129_1 11 rfl) (by decide)) (
  jm_gc (pu_iload _ _) (sn_iload_n (i := 2) (jm_dc dc_129_1 12 rfl)) (
  jm_gc (pu_ibin _) (sn_imul (jm_dc dc_129_1 13 rfl)) (
  jm_gc (pu_iload _ _) (sn_iload_n (i := 1) (jm_dc dc_129_1 14 rfl)) (
  jm_gc (pu_ibin _) (sn_iadd (jm_dc dc_129_1 15 rfl)) (
  jm_gc (pu_iload _ _) (sn_iload_n (i := 3) (jm_dc dc_129_1 16 rfl)) (
  jm_gc (pu_iast) (sn_iast (jm_dc dc_129_1 17 rfl)) (
  jm_gc (pu_iload _ _) (sn_iload (jm_dc dc_129_1 18 rfl)) (
  jm_gc (pu_iret) (sn_iret (jm_dc dc_129_1 19 rfl) rfl) (
  jm_gn))))))))))))))))))))
theorem dc_130_0 : ([(0, .aload_n 0, 1), (1, .iload_n 1, 1), (2, .iload_n 2, 1), (3, .iload_n 3, 1), (4, .iload 4, 2), (6, .invokevirtual 174, 3), (9, .istore 5, 2), (11, .iload 5, 2), (13, .ifCond .eq 6, 3), (16, .iload 5, 2), (18, .ireturn, 1), (19, .aload_n 0, 1), (20, .getfield 28, 3), (23, .iload_n 1, 1), (24, .iload_n 2, 1), (25, .iload_n 3, 1), (26, .iload 4, 2), (28, .invokevirtual 178, 3), (31, .lstore 6, 2), (33, .lload 6, 2), (35, .lconst 0, 1), (36, .lcmp, 1), (37, .ifCond .ge 8, 3), (40, .bipush (-3), 2), (42, .goto 20, 3)] : List (Nat × Instr × Nat)).all (fun e => decide (decode prog_1_method_9_code e.1 = .ok e.2)) = true := by decide +kernel
abbrev cl_130_0 : List (Nat × jm_O) := [(0, op_aload 0 1), (1, op_iload 1 1), (2, op_iload 2 1), (3, op_iload 3 1), (4, op_iload 4 2), (6, op_callV 10 163 5), (9, op_istore 5 2), (11, op_iload 5 2), (13, op_ifeq 19), (16, op_iload 5 2), (18, op_iret), (19, op_aload 0 1), (20, op_getA 10 2), (23, op_iload 1 1), (24, op_iload 2 1), (25, op_iload 3 1), (26, op_iload 4 2), (28, op_callV 3 32 5), (31, op_lstore 6 2), (33, op_lload 6 2), (35, op_lc 0 1), (36, op_lcmp), (37, op_ifge 45), (40, op_ic (-3) 2), (42, op_goto 62)]
set_option maxRecDepth 100000 in
theorem gl_130_0 : jm_gl "FrescoWall" prog_1_method_9_code 8 (Option.some Jvm.ClassFile.FieldType.int) false cl_130_0 :=
  jm_gc (pu_aload _ _) (sn_aload_n (i := 0) (jm_dc dc_130_0 0 rfl)) (
  jm_gc (pu_iload _ _) (sn_iload_n (i := 1) (jm_dc dc_130_0 1 rfl)) (
  jm_gc (pu_iload _ _) (sn_iload_n (i := 2) (jm_dc dc_130_0 2 rfl)) (
  jm_gc (pu_iload _ _) (sn_iload_n (i := 3) (jm_dc dc_130_0 3 rfl)) (
  jm_gc (pu_iload _ _) (sn_iload (jm_dc dc_130_0 4 rfl)) (
  jm_gc (pu_callV _ _ _) (sn_callV (jm_dc dc_130_0 5 rfl) lk_10_174) (
  jm_gc (pu_istore _ _) (sn_istore (jm_dc dc_130_0 6 rfl)) (
  jm_gc (pu_iload _ _) (sn_iload (jm_dc dc_130_0 7 rfl)) (
  jm_gc (pu_ifeq _) (sn_ifeq (jm_dc dc_130_0 8 rfl) (by decide)) (
  jm_gc (pu_iload _ _) (sn_iload (jm_dc dc_130_0 9 rfl)) (
  jm_gc (pu_iret) (sn_iret (jm_dc dc_130_0 10 rfl) rfl) (
  jm_gc (pu_aload _ _) (sn_aload_n (i := 0) (jm_dc dc_130_0 11 rfl)) (
  jm_gc (pu_getA _ _) (sn_getA (jm_dc dc_130_0 12 rfl) fl_10_28 rfl) (
  jm_gc (pu_iload _ _) (sn_iload_n (i := 1) (jm_dc dc_130_0 13 rfl)) (
  jm_gc (pu_iload _ _) (sn_iload_n (i := 2) (jm_dc dc_130_0 14 rfl)) (
  jm_gc (pu_iload _ _) (sn_iload_n (i := 3) (jm_dc dc_130_0 15 rfl)) (
  jm_gc (pu_iload _ _) (sn_iload (jm_dc dc_130_0 16 rfl)) (
  jm_gc (pu_callV _ _ _) (sn_callV (jm_dc dc_130_0 17 rfl) lk_10_178) (
  jm_gc (pu_lstore _ _) (sn_lstore (jm_dc dc_130_0 18 rfl)) (
  jm_gc (pu_lload _ _) (sn_lload (jm_dc dc_130_0 19 rfl)) (
  jm_gc (pu_lc _ _) (sn_lconst (jm_dc dc_130_0 20 rfl) (by decide)) (
  jm_gc (pu_lcmp) (sn_lcmp (jm_dc dc_130_0 21 rfl)) (
  jm_gc (pu_ifge _) (sn_ifge (jm_dc dc_130_0 22 rfl) (by decide)) (
  jm_gc (pu_ic _ _) (sn_bipush (jm_dc dc_130_0 23 rfl) (by decide)) (
  jm_gc (pu_goto _) (sn_goto (jm_dc dc_130_0 24 rfl) (by decide)) (
  jm_gn)))))))))))))))))))))))))
theorem dc_130_1 : ([(45, .aload_n 0, 1), (46, .getfield 28, 3), (49, .iload_n 1, 1), (50, .iload_n 2, 1), (51, .iload_n 3, 1), (52, .iload 4, 2), (54, .lload 6, 2), (56, .invokestatic 182, 3), (59, .invokevirtual 188, 3), (62, .ireturn, 1)] : List (Nat × Instr × Nat)).all (fun e => decide (decode prog_1_method_9_code e.1 = .ok e.2)) = true := by decide +kernel
abbrev cl_130_1 : List (Nat × jm_O) := [(45, op_aload 0 1), (46, op_getA 10 2), (49, op_iload 1 1), (50, op_iload 2 1), (51, op_iload 3 1), (52, op_iload 4 2), (54, op_lload 6 2), (56, op_callS 306 1), (59, op_callV 3 33 6), (62, op_iret)]
set_option maxRecDepth 100000 in
theorem gl_130_1 : jm_gl "FrescoWall" prog_1_method_9_code 8 (Option.some Jvm.ClassFile.FieldType.int) false cl_130_1 :=
  jm_gc (pu_aload _ _) (sn_aload_n (i := 0) (jm_dc dc_130_1 0 rfl)) (
  jm_gc (pu_getA _ _) (sn_getA (jm_dc dc_130_1 1 rfl) fl_10_28 rfl) (
  jm_gc (pu_iload _ _) (sn_iload_n (i := 1) (jm_dc dc_130_1 2 rfl)) (
  jm_gc (pu_iload _ _) (sn_iload_n (i := 2) (jm_dc dc_130_1 3 rfl)) (
  jm_gc (pu_iload _ _) (sn_iload_n (i := 3) (jm_dc dc_130_1 4 rfl)) (
  jm_gc (pu_iload _ _) (sn_iload (jm_dc dc_130_1 5 rfl)) (
  jm_gc (pu_lload _ _) (sn_lload (jm_dc dc_130_1 6 rfl)) (
  jm_gc (pu_callS _ _) (sn_callS (jm_dc dc_130_1 7 rfl) lk_10_182) (
  jm_gc (pu_callV _ _ _) (sn_callV (jm_dc dc_130_1 8 rfl) lk_10_188) (
  jm_gc (pu_iret) (sn_iret (jm_dc dc_130_1 9 rfl) rfl) (
  jm_gn))))))))))
theorem dc_131_0 : ([(0, .aload_n 0, 1), (1, .iload_n 1, 1), (2, .iload_n 2, 1), (3, .iload_n 3, 1), (4, .iload 4, 2), (6, .invokevirtual 174, 3), (9, .ifCond .eq 6, 3), (12, .ldc 117, 2), (14, .ireturn, 1), (15, .aload_n 0, 1), (16, .getfield 28, 3), (19, .iload_n 1, 1), (20, .iload_n 2, 1), (21, .iload_n 3, 1), (22, .iload 4, 2), (24, .invokevirtual 178, 3), (27, .lstore 6, 2), (29, .lload 6, 2), (31, .lconst 0, 1), (32, .lcmp, 1), (33, .ifCond .ge 8, 3), (36, .ldc 117, 2), (38, .goto 10, 3), (41, .lload 6, 2), (43, .iload 5, 2)] : List (Nat × Instr × Nat)).all (fun e => decide (decode prog_1_method_10_code e.1 = .ok e.2)) = true := by decide +kernel
abbrev cl_131_0 : List (Nat × jm_O) := [(0, op_aload 0 1), (1, op_iload 1 1), (2, op_iload 2 1), (3, op_iload 3 1), (4, op_iload 4 2), (6, op_callV 10 163 5), (9, op_ifeq 15), (12, op_ic (-100000) 2), (14, op_iret), (15, op_aload 0 1), (16, op_getA 10 2), (19, op_iload 1 1), (20, op_iload 2 1), (21, op_iload 3 1), (22, op_iload 4 2), (24, op_callV 3 32 5), (27, op_lstore 6 2), (29, op_lload 6 2), (31, op_lc 0 1), (32, op_lcmp), (33, op_ifge 41), (36, op_ic (-100000) 2), (38, op_goto 48), (41, op_lload 6 2), (43, op_iload 5 2)]
set_option maxRecDepth 100000 in
theorem gl_131_0 : jm_gl "FrescoWall" prog_1_method_10_code 8 (Option.some Jvm.ClassFile.FieldType.int) false cl_131_0 :=
  jm_gc (pu_aload _ _) (sn_aload_n (i := 0) (jm_dc dc_131_0 0 rfl)) (
  jm_gc (pu_iload _ _) (sn_iload_n (i := 1) (jm_dc dc_131_0 1 rfl)) (
  jm_gc (pu_iload _ _) (sn_iload_n (i := 2) (jm_dc dc_131_0 2 rfl)) (
  jm_gc (pu_iload _ _) (sn_iload_n (i := 3) (jm_dc dc_131_0 3 rfl)) (
  jm_gc (pu_iload _ _) (sn_iload (jm_dc dc_131_0 4 rfl)) (
  jm_gc (pu_callV _ _ _) (sn_callV (jm_dc dc_131_0 5 rfl) lk_10_174) (
  jm_gc (pu_ifeq _) (sn_ifeq (jm_dc dc_131_0 6 rfl) (by decide)) (
  jm_gc (pu_ic _ _) (sn_ldc (jm_dc dc_131_0 7 rfl) (kc_tb 622 (by decide +kernel))) (
  jm_gc (pu_iret) (sn_iret (jm_dc dc_131_0 8 rfl) rfl) (
  jm_gc (pu_aload _ _) (sn_aload_n (i := 0) (jm_dc dc_131_0 9 rfl)) (
  jm_gc (pu_getA _ _) (sn_getA (jm_dc dc_131_0 10 rfl) fl_10_28 rfl) (
  jm_gc (pu_iload _ _) (sn_iload_n (i := 1) (jm_dc dc_131_0 11 rfl)) (
  jm_gc (pu_iload _ _) (sn_iload_n (i := 2) (jm_dc dc_131_0 12 rfl)) (
  jm_gc (pu_iload _ _) (sn_iload_n (i := 3) (jm_dc dc_131_0 13 rfl)) (
  jm_gc (pu_iload _ _) (sn_iload (jm_dc dc_131_0 14 rfl)) (
  jm_gc (pu_callV _ _ _) (sn_callV (jm_dc dc_131_0 15 rfl) lk_10_178) (
  jm_gc (pu_lstore _ _) (sn_lstore (jm_dc dc_131_0 16 rfl)) (
  jm_gc (pu_lload _ _) (sn_lload (jm_dc dc_131_0 17 rfl)) (
  jm_gc (pu_lc _ _) (sn_lconst (jm_dc dc_131_0 18 rfl) (by decide)) (
  jm_gc (pu_lcmp) (sn_lcmp (jm_dc dc_131_0 19 rfl)) (
  jm_gc (pu_ifge _) (sn_ifge (jm_dc dc_131_0 20 rfl) (by decide)) (
  jm_gc (pu_ic _ _) (sn_ldc (jm_dc dc_131_0 21 rfl) (kc_tb 622 (by decide +kernel))) (
  jm_gc (pu_goto _) (sn_goto (jm_dc dc_131_0 22 rfl) (by decide)) (
  jm_gc (pu_lload _ _) (sn_lload (jm_dc dc_131_0 23 rfl)) (
  jm_gc (pu_iload _ _) (sn_iload (jm_dc dc_131_0 24 rfl)) (
  jm_gn)))))))))))))))))))))))))
theorem dc_131_1 : ([(45, .invokestatic 192, 3), (48, .ireturn, 1)] : List (Nat × Instr × Nat)).all (fun e => decide (decode prog_1_method_10_code e.1 = .ok e.2)) = true := by decide +kernel
abbrev cl_131_1 : List (Nat × jm_O) := [(45, op_callS 169 2), (48, op_iret)]
set_option maxRecDepth 100000 in
theorem gl_131_1 : jm_gl "FrescoWall" prog_1_method_10_code 8 (Option.some Jvm.ClassFile.FieldType.int) false cl_131_1 :=
  jm_gc (pu_callS _ _) (sn_callS (jm_dc dc_131_1 0 rfl) lk_10_192) (
  jm_gc (pu_iret) (sn_iret (jm_dc dc_131_1 1 rfl) rfl) (
  jm_gn))
theorem dc_132_0 : ([(0, .aload_n 0, 1), (1, .iload_n 1, 1), (2, .iload_n 2, 1), (3, .invokevirtual 143, 3), (6, .ifCond .eq 15, 3), (9, .aload_n 0, 1), (10, .getfield 28, 3), (13, .iload_n 1, 1), (14, .iload_n 2, 1), (15, .invokevirtual 196, 3), (18, .goto 4, 3), (21, .iconst (-1), 1), (22, .ireturn, 1)] : List (Nat × Instr × Nat)).all (fun e => decide (decode prog_1_method_11_code e.1 = .ok e.2)) = true := by decide +kernel
abbrev cl_132_0 : List (Nat × jm_O) := [(0, op_aload 0 1), (1, op_iload 1 1), (2, op_iload 2 1), (3, op_callV 10 161 3), (6, op_ifeq 21), (9, op_aload 0 1), (10, op_getA 10 2), (13, op_iload 1 1), (14, op_iload 2 1), (15, op_callV 3 34 3), (18, op_goto 22), (21, op_ic (-1) 1), (22, op_iret)]
set_option maxRecDepth 100000 in
theorem gl_132_0 : jm_gl "FrescoWall" prog_1_method_11_code 3 (Option.some Jvm.ClassFile.FieldType.int) false cl_132_0 :=
  jm_gc (pu_aload _ _) (sn_aload_n (i := 0) (jm_dc dc_132_0 0 rfl)) (
  jm_gc (pu_iload _ _) (sn_iload_n (i := 1) (jm_dc dc_132_0 1 rfl)) (
  jm_gc (pu_iload _ _) (sn_iload_n (i := 2) (jm_dc dc_132_0 2 rfl)) (
  jm_gc (pu_callV _ _ _) (sn_callV (jm_dc dc_132_0 3 rfl) lk_10_143) (
  jm_gc (pu_ifeq _) (sn_ifeq (jm_dc dc_132_0 4 rfl) (by decide)) (
  jm_gc (pu_aload _ _) (sn_aload_n (i := 0) (jm_dc dc_132_0 5 rfl)) (
  jm_gc (pu_getA _ _) (sn_getA (jm_dc dc_132_0 6 rfl) fl_10_28 rfl) (
  jm_gc (pu_iload _ _) (sn_iload_n (i := 1) (jm_dc dc_132_0 7 rfl)) (
  jm_gc (pu_iload _ _) (sn_iload_n (i := 2) (jm_dc dc_132_0 8 rfl)) (
  jm_gc (pu_callV _ _ _) (sn_callV (jm_dc dc_132_0 9 rfl) lk_10_196) (
  jm_gc (pu_goto _) (sn_goto (jm_dc dc_132_0 10 rfl) (by decide)) (
  jm_gc (pu_ic _ _) (sn_iconst (jm_dc dc_132_0 11 rfl) (by decide)) (
  jm_gc (pu_iret) (sn_iret (jm_dc dc_132_0 12 rfl) rfl) (
  jm_gn)))))))))))))
theorem dc_133_0 : ([(0, .aload_n 0, 1), (1, .iload_n 1, 1), (2, .iload_n 2, 1), (3, .invokevirtual 143, 3), (6, .ifCond .eq 20, 3), (9, .iload_n 3, 1), (10, .ifCond .lt 16, 3), (13, .iload_n 3, 1), (14, .aload_n 0, 1), (15, .getfield 28, 3), (18, .iload_n 1, 1), (19, .iload_n 2, 1), (20, .invokevirtual 196, 3), (23, .if_icmp .lt 5, 3), (26, .iconst (-1), 1), (27, .ireturn, 1), (28, .aload_n 0, 1), (29, .getfield 28, 3), (32, .getfield 200, 3), (35, .iload_n 3, 1), (36, .iaload, 1), (37, .sipush 1000, 3), (40, .irem, 1), (41, .ireturn, 1)] : List (Nat × Instr × Nat)).all (fun e => decide (decode prog_1_method_12_code e.1 = .ok e.2)) = true := by decide +kernel
abbrev cl_133_0 : List (Nat × jm_O) := [(0, op_aload 0 1), (1, op_iload 1 1), (2, op_iload 2 1), (3, op_callV 10 161 3), (6, op_ifeq 26), (9, op_iload 3 1), (10, op_iflt 26), (13, op_iload 3 1), (14, op_aload 0 1), (15, op_getA 10 2), (18, op_iload 1 1), (19, op_iload 2 1), (20, op_callV 3 34 3), (23, op_clt 28), (26, op_ic (-1) 1), (27, op_iret), (28, op_aload 0 1), (29, op_getA 10 2), (32, op_getA 3 4), (35, op_iload 3 1), (36, op_iald 13), (37, op_ic 1000 3), (40, op_idz (fun x y => x - x / y * y)), (41, op_iret)]
set_option maxRecDepth 100000 in
theorem gl_133_0 : jm_gl "FrescoWall" prog_1_method_12_code 4 (Option.some Jvm.ClassFile.FieldType.int) false cl_133_0 :=
  jm_gc (pu_aload _ _) (sn_aload_n (i := 0) (jm_dc dc_133_0 0 rfl)) (
  jm_gc (pu_iload _ _) (sn_iload_n (i := 1) (jm_dc dc_133_0 1 rfl)) (
  jm_gc (pu_iload _ _) (sn_iload_n (i := 2) (jm_dc dc_133_0 2 rfl)) (
  jm_gc (pu_callV _ _ _) (sn_callV (jm_dc dc_133_0 3 rfl) lk_10_143) (
  jm_gc (pu_ifeq _) (sn_ifeq (jm_dc dc_133_0 4 rfl) (by decide)) (
  jm_gc (pu_iload _ _) (sn_iload_n (i := 3) (jm_dc dc_133_0 5 rfl)) (
  jm_gc (pu_iflt _) (sn_iflt (jm_dc dc_133_0 6 rfl) (by decide)) (
  jm_gc (pu_iload _ _) (sn_iload_n (i := 3) (jm_dc dc_133_0 7 rfl)) (
  jm_gc (pu_aload _ _) (sn_aload_n (i := 0) (jm_dc dc_133_0 8 rfl)) (
  jm_gc (pu_getA _ _) (sn_getA (jm_dc dc_133_0 9 rfl) fl_10_28 rfl) (
  jm_gc (pu_iload _ _) (sn_iload_n (i := 1) (jm_dc dc_133_0 10 rfl)) (
  jm_gc (pu_iload _ _) (sn_iload_n (i := 2) (jm_dc dc_133_0 11 rfl)) (
  jm_gc (pu_callV _ _ _) (sn_callV (jm_dc dc_133_0 12 rfl) lk_10_196) (
  jm_gc (pu_clt _) (sn_clt (jm_dc dc_133_0 13 rfl) (by decide)) (
  jm_gc (pu_ic _ _) (sn_iconst (jm_dc dc_133_0 14 rfl) (by decide)) (
  jm_gc (pu_iret) (sn_iret (jm_dc dc_133_0 15 rfl) rfl) (
  jm_gc (pu_aload _ _) (sn_aload_n (i := 0) (jm_dc dc_133_0 16 rfl)) (
  jm_gc (pu_getA _ _) (sn_getA (jm_dc dc_133_0 17 rfl) fl_10_28 rfl) (
  jm_gc (pu_getA _ _) (sn_getA (jm_dc dc_133_0 18 rfl) fl_10_200 rfl) (
  jm_gc (pu_iload _ _) (sn_iload_n (i := 3) (jm_dc dc_133_0 19 rfl)) (
  jm_gc (pu_iald _) (sn_iald (jm_dc dc_133_0 20 rfl)) (
  jm_gc (pu_ic _ _) (sn_sipush (jm_dc dc_133_0 21 rfl) (by decide)) (
  jm_gc (pu_idz _) (sn_irem (jm_dc dc_133_0 22 rfl)) (
  jm_gc (pu_iret) (sn_iret (jm_dc dc_133_0 23 rfl) rfl) (
  jm_gn))))))))))))))))))))))))
theorem dc_134_0 : ([(0, .aload_n 0, 1), (1, .iload_n 1, 1), (2, .iload_n 2, 1), (3, .iload_n 3, 1), (4, .iload 4, 2), (6, .invokevirtual 174, 3), (9, .istore 5, 2), (11, .iload 5, 2), (13, .ifCond .eq 6, 3), (16, .iload 5, 2), (18, .ireturn, 1), (19, .aload_n 0, 1), (20, .getfield 28, 3), (23, .iload_n 1, 1), (24, .iload_n 2, 1), (25, .iload_n 3, 1), (26, .iload 4, 2), (28, .invokevirtual 178, 3), (31, .lconst 0, 1), (32, .lcmp, 1), (33, .ifCond .ge 6, 3), (36, .bipush (-3), 2), (38, .ireturn, 1), (39, .aload_n 0, 1), (40, .getfield 28, 3)] : List (Nat × Instr × Nat)).all (fun e => decide (decode prog_1_method_13_code e.1 = .ok e.2)) = true := by decide +kernel
abbrev cl_134_0 : List (Nat × jm_O) := [(0, op_aload 0 1), (1, op_iload 1 1), (2, op_iload 2 1), (3, op_iload 3 1), (4, op_iload 4 2), (6, op_callV 10 163 5), (9, op_istore 5 2), (11, op_iload 5 2), (13, op_ifeq 19), (16, op_iload 5 2), (18, op_iret), (19, op_aload 0 1), (20, op_getA 10 2), (23, op_iload 1 1), (24, op_iload 2 1), (25, op_iload 3 1), (26, op_iload 4 2), (28, op_callV 3 32 5), (31, op_lc 0 1), (32, op_lcmp), (33, op_ifge 39), (36, op_ic (-3) 2), (38, op_iret), (39, op_aload 0 1), (40, op_getA 10 2)]
set_option maxRecDepth 100000 in
theorem gl_134_0 : jm_gl "FrescoWall" prog_1_method_13_code 8 (Option.some Jvm.ClassFile.FieldType.int) false cl_134_0 :=
  jm_gc (pu_aload _ _) (sn_aload_n (i := 0) (jm_dc dc_134_0 0 rfl)) (
  jm_gc (pu_iload _ _) (sn_iload_n (i := 1) (jm_dc dc_134_0 1 rfl)) (
  jm_gc (pu_iload _ _) (sn_iload_n (i := 2) (jm_dc dc_134_0 2 rfl)) (
  jm_gc (pu_iload _ _) (sn_iload_n (i := 3) (jm_dc dc_134_0 3 rfl)) (
  jm_gc (pu_iload _ _) (sn_iload (jm_dc dc_134_0 4 rfl)) (
  jm_gc (pu_callV _ _ _) (sn_callV (jm_dc dc_134_0 5 rfl) lk_10_174) (
  jm_gc (pu_istore _ _) (sn_istore (jm_dc dc_134_0 6 rfl)) (
  jm_gc (pu_iload _ _) (sn_iload (jm_dc dc_134_0 7 rfl)) (
  jm_gc (pu_ifeq _) (sn_ifeq (jm_dc dc_134_0 8 rfl) (by decide)) (
  jm_gc (pu_iload _ _) (sn_iload (jm_dc dc_134_0 9 rfl)) (
  jm_gc (pu_iret) (sn_iret (jm_dc dc_134_0 10 rfl) rfl) (
  jm_gc (pu_aload _ _) (sn_aload_n (i := 0) (jm_dc dc_134_0 11 rfl)) (
  jm_gc (pu_getA _ _) (sn_getA (jm_dc dc_134_0 12 rfl) fl_10_28 rfl) (
  jm_gc (pu_iload _ _) (sn_iload_n (i := 1) (jm_dc dc_134_0 13 rfl)) (
  jm_gc (pu_iload _ _) (sn_iload_n (i := 2) (jm_dc dc_134_0 14 rfl)) (
  jm_gc (pu_iload _ _) (sn_iload_n (i := 3) (jm_dc dc_134_0 15 rfl)) (
  jm_gc (pu_iload _ _) (sn_iload (jm_dc dc_134_0 16 rfl)) (
  jm_gc (pu_callV _ _ _) (sn_callV (jm_dc dc_134_0 17 rfl) lk_10_178) (
  jm_gc (pu_lc _ _) (sn_lconst (jm_dc dc_134_0 18 rfl) (by decide)) (
  jm_gc (pu_lcmp) (sn_lcmp (jm_dc dc_134_0 19 rfl)) (
  jm_gc (pu_ifge _) (sn_ifge (jm_dc dc_134_0 20 rfl) (by decide)) (
  jm_gc (pu_ic _ _) (sn_bipush (jm_dc dc_134_0 21 rfl) (by decide)) (
  jm_gc (pu_iret) (sn_iret (jm_dc dc_134_0 22 rfl) rfl) (
  jm_gc (pu_aload _ _) (sn_aload_n (i := 0) (jm_dc dc_134_0 23 rfl)) (
  jm_gc (pu_getA _ _) (sn_getA (jm_dc dc_134_0 24 rfl) fl_10_28 rfl) (
  jm_gn)))))))))))))))))))))))))
theorem dc_134_1 : ([(43, .iload_n 1, 1), (44, .iload_n 2, 1), (45, .iload_n 3, 1), (46, .iload 4, 2), (48, .invokevirtual 203, 3), (51, .istore 6, 2), (53, .iload 6, 2), (55, .ifCond .lt 12, 3), (58, .sipush 1000, 3), (61, .iload_n 1, 1), (62, .imul, 1), (63, .iload 6, 2), (65, .iadd, 1), (66, .ireturn, 1), (67, .aload_n 0, 1), (68, .getfield 28, 3), (71, .iload_n 3, 1), (72, .iload 4, 2), (74, .iload_n 1, 1), (75, .iload_n 2, 1), (76, .invokevirtual 203, 3), (79, .istore 7, 2), (81, .iload 7, 2), (83, .ifCond .lt 14, 3), (86, .sipush 1000, 3)] : List (Nat × Instr × Nat)).all (fun e => decide (decode prog_1_method_13_code e.1 = .ok e.2)) = true := by decide +kernel
abbrev cl_134_1 : List (Nat × jm_O) := [(43, op_iload 1 1), (44, op_iload 2 1), (45, op_iload 3 1), (46, op_iload 4 2), (48, op_callV 3 37 5), (51, op_istore 6 2), (53, op_iload 6 2), (55, op_iflt 67), (58, op_ic 1000 3), (61, op_iload 1 1), (62, op_ibin (fun x y => x * y)), (63, op_iload 6 2), (65, op_ibin (fun x y => x + y)), (66, op_iret), (67, op_aload 0 1), (68, op_getA 10 2), (71, op_iload 3 1), (72, op_iload 4 2), (74, op_iload 1 1), (75, op_iload 2 1), (76, op_callV 3 37 5), (79, op_istore 7 2), (81, op_iload 7 2), (83, op_iflt 97), (86, op_ic 1000 3)]
set_option maxRecDepth 100000 in
theorem gl_134_1 : jm_gl "FrescoWall" prog_1_method_13_code 8 (Option.some Jvm.ClassFile.FieldType.int) false cl_134_1 :=
  jm_gc (pu_iload _ _) (sn_iload_n (i := 1) (jm_dc dc_134_1 0 rfl)) (
  jm_gc (pu_iload _ _) (sn_iload_n (i := 2) (jm_dc dc_134_1 1 rfl)) (
  jm_gc (pu_iload _ _) (sn_iload_n (i := 3) (jm_dc dc_134_1 2 rfl)) (
  jm_gc (pu_iload _ _) (sn_iload (jm_dc dc_134_1 3 rfl)) (
  jm_gc (pu_callV _ _ _) (sn_callV (jm_dc dc_134_1 4 rfl) lk_10_203) (
  jm_gc (pu_istore _ _) (sn_istore (jm_dc dc_134_1 5 rfl)) (
  jm_gc (pu_iload _ _) (sn_iload (jm_dc dc_134_1 6 rfl)) (
  jm_gc (pu_iflt _) (sn_iflt (jm_dc dc_134_1 7 rfl) (by decide)) (
  jm_gc (pu_ic _ _) (sn_sipush (jm_dc dc_134_1 8 rfl) (by decide)) (
  jm_gc (pu_iload _ _) (sn_iload_n (i := 1) (jm_dc dc_134_1 9 rfl)) (
  jm_gc (pu_ibin _) (sn_imul (jm_dc dc_134_1 10 rfl)) (
  jm_gc (pu_iload _ _) (sn_iload (jm_dc dc_134_1 11 rfl)) (
  jm_gc (pu_ibin _) (sn_iadd (jm_dc dc_134_1 12 rfl)) (
  jm_gc (pu_iret) (sn_iret (jm_dc dc_134_1 13 rfl) rfl) (
  jm_gc (pu_aload _ _) (sn_aload_n (i := 0) (jm_dc dc_134_1 14 rfl)) (
  jm_gc (pu_getA _ _) (sn_getA (jm_dc dc_134_1 15 rfl) fl_10_28 rfl) (
  jm_gc (pu_iload _ _) (sn_iload_n (i := 3) (jm_dc dc_134_1 16 rfl)) (
  jm_gc (pu_iload _ _) (sn_iload (jm_dc dc_134_1 17 rfl)) (
  jm_gc (pu_iload _ _) (sn_iload_n (i := 1) (jm_dc dc_134_1 18 rfl)) (
  jm_gc (pu_iload _ _) (sn_iload_n (i := 2) (jm_dc dc_134_1 19 rfl)) (
  jm_gc (pu_callV _ _ _) (sn_callV (jm_dc dc_134_1 20 rfl) lk_10_203) (
  jm_gc (pu_istore _ _) (sn_istore (jm_dc dc_134_1 21 rfl)) (
  jm_gc (pu_iload _ _) (sn_iload (jm_dc dc_134_1 22 rfl)) (
  jm_gc (pu_iflt _) (sn_iflt (jm_dc dc_134_1 23 rfl) (by decide)) (
  jm_gc (pu_ic _ _) (sn_sipush (jm_dc dc_134_1 24 rfl) (by decide)) (
  jm_gn)))))))))))))))))))))))))
theorem dc_134_2 : ([(89, .iload_n 3, 1), (90, .imul, 1), (91, .iload 7, 2), (93, .iadd, 1), (94, .goto 5, 3), (97, .bipush (-5), 2), (99, .ireturn, 1)] : List (Nat × Instr × Nat)).all (fun e => decide (decode prog_1_method_13_code e.1 = .ok e.2)) = true := by decide +kernel
abbrev cl_134_2 : List (Nat × jm_O) := [(89, op_iload 3 1), (90, op_ibin (fun x y => x * y)), (91, op_iload 7 2), (93, op_ibin (fun x y => x + y)), (94, op_goto 99), (97, op_ic (-5) 2), (99, op_iret)]
set_option maxRecDepth 100000 in
theorem gl_134_2 : jm_gl "FrescoWall" prog_1_method_13_code 8 (Option.some Jvm.ClassFile.FieldType.int) false cl_134_2 :=
  jm_gc (pu_iload _ _) (sn_iload_n (i := 3) (jm_dc dc_134_2 0 rfl)) (
  jm_gc (pu_ibin _) (sn_imul (jm_dc dc_134_2 1 rfl)) (
  jm_gc (pu_iload _ _) (sn_iload (jm_dc dc_134_2 2 rfl)) (
  jm_gc (pu_ibin _) (sn_iadd (jm_dc dc_134_2 3 rfl)) (
  jm_gc (pu_goto _) (sn_goto (jm_dc dc_134_2 4 rfl) (by decide)) (
  jm_gc (pu_ic _ _) (sn_bipush (jm_dc dc_134_2 5 rfl) (by decide)) (
  jm_gc (pu_iret) (sn_iret (jm_dc dc_134_2 6 rfl) rfl) (
  jm_gn)))))))
theorem dc_135_0 : ([(0, .aload_n 0, 1), (1, .iload_n 1, 1), (2, .iload_n 2, 1), (3, .iload_n 3, 1), (4, .iload 4, 2), (6, .invokevirtual 174, 3), (9, .istore 5, 2), (11, .iload 5, 2), (13, .ifCond .eq 6, 3), (16, .iload 5, 2), (18, .ireturn, 1), (19, .aload_n 0, 1), (20, .getfield 28, 3), (23, .iload_n 1, 1), (24, .iload_n 2, 1), (25, .iload_n 3, 1), (26, .iload 4, 2), (28, .invokevirtual 178, 3), (31, .lstore 6, 2), (33, .lload 6, 2), (35, .lconst 0, 1), (36, .lcmp, 1), (37, .ifCond .lt 28, 3), (40, .aload_n 0, 1), (41, .getfield 35, 3)] : List (Nat × Instr × Nat)).all (fun e => decide (decode prog_1_method_14_code e.1 = .ok e.2)) = true := by decide +kernel
abbrev cl_135_0 : List (Nat × jm_O) := [(0, op_aload 0 1), (1, op_iload 1 1), (2, op_iload 2 1), (3, op_iload 3 1), (4, op_iload 4 2), (6, op_callV 10 163 5), (9, op_istore 5 2), (11, op_iload 5 2), (13, op_ifeq 19), (16, op_iload 5 2), (18, op_iret), (19, op_aload 0 1), (20, op_getA 10 2), (23, op_iload 1 1), (24, op_iload 2 1), (25, op_iload 3 1), (26, op_iload 4 2), (28, op_callV 3 32 5), (31, op_lstore 6 2), (33, op_lload 6 2), (35, op_lc 0 1), (36, op_lcmp), (37, op_iflt 65), (40, op_aload 0 1), (41, op_getA 10 3)]
set_option maxRecDepth 100000 in
theorem gl_135_0 : jm_gl "FrescoWall" prog_1_method_14_code 9 (Option.some Jvm.ClassFile.FieldType.int) false cl_135_0 :=
  jm_gc (pu_aload _ _) (sn_aload_n (i := 0) (jm_dc dc_135_0 0 rfl)) (
  jm_gc (pu_iload _ _) (sn_iload_n (i := 1) (jm_dc dc_135_0 1 rfl)) (
  jm_gc (pu_iload _ _) (sn_iload_n (i := 2) (jm_dc dc_135_0 2 rfl)) (
  jm_gc (pu_iload _ _) (sn_iload_n (i := 3) (jm_dc dc_135_0 3 rfl)) (
  jm_gc (pu_iload _ _) (sn_iload (jm_dc dc_135_0 4 rfl)) (
  jm_gc (pu_callV _ _ _) (sn_callV (jm_dc dc_135_0 5 rfl) lk_10_174) (
  jm_gc (pu_istore _ _) (sn_istore (jm_dc dc_135_0 6 rfl)) (
  jm_gc (pu_iload _ _) (sn_iload (jm_dc dc_135_0 7 rfl)) (
  jm_gc (pu_ifeq _) (sn_ifeq (jm_dc dc_135_0 8 rfl) (by decide)) (
  jm_gc (pu_iload _ _) (sn_iload (jm_dc dc_135_0 9 rfl)) (
  jm_gc (pu_iret) (sn_iret (jm_dc dc_135_0 10 rfl) rfl) (
  jm_gc (pu_aload _ _) (sn_aload_n (i := 0) (jm_dc dc_135_0 11 rfl)) (
  jm_gc (pu_getA _ _) (sn_getA (jm_dc dc_135_0 12 rfl) fl_10_28 rfl) (
  jm_gc (pu_iload _ _) (sn_iload_n (i := 1) (jm_dc dc_135_0 13 rfl)) (
  jm_gc (pu_iload _ _) (sn_iload_n (i := 2) (jm_dc dc_135_0 14 rfl)) (
  jm_gc (pu_iload _ _) (sn_iload_n (i := 3) (jm_dc dc_135_0 15 rfl)) (
  jm_gc (pu_iload _ _) (sn_iload (jm_dc dc_135_0 16 rfl)) (
  jm_gc (pu_callV _ _ _) (sn_callV (jm_dc dc_135_0 17 rfl) lk_10_178) (
  jm_gc (pu_lstore _ _) (sn_lstore (jm_dc dc_135_0 18 rfl)) (
  jm_gc (pu_lload _ _) (sn_lload (jm_dc dc_135_0 19 rfl)) (
  jm_gc (pu_lc _ _) (sn_lconst (jm_dc dc_135_0 20 rfl) (by decide)) (
  jm_gc (pu_lcmp) (sn_lcmp (jm_dc dc_135_0 21 rfl)) (
  jm_gc (pu_iflt _) (sn_iflt (jm_dc dc_135_0 22 rfl) (by decide)) (
  jm_gc (pu_aload _ _) (sn_aload_n (i := 0) (jm_dc dc_135_0 23 rfl)) (
  jm_gc (pu_getA _ _) (sn_getA (jm_dc dc_135_0 24 rfl) fl_10_35 rfl) (
  jm_gn)))))))))))))))))))))))))
theorem dc_135_1 : ([(44, .iload_n 1, 1), (45, .iload_n 2, 1), (46, .invokevirtual 206, 3), (49, .ifCond .ne 16, 3), (52, .aload_n 0, 1), (53, .getfield 35, 3), (56, .iload_n 3, 1), (57, .iload 4, 2), (59, .invokevirtual 206, 3), (62, .ifCond .eq 6, 3), (65, .bipush (-3), 2), (67, .ireturn, 1), (68, .aload_n 0, 1), (69, .getfield 35, 3), (72, .getfield 209, 3), (75, .bipush 60, 2), (77, .if_icmp .ne 6, 3), (80, .bipush (-4), 2), (82, .ireturn, 1), (83, .aload_n 0, 1), (84, .getfield 44, 3), (87, .iload_n 1, 1), (88, .iload_n 3, 1), (89, .lload 6, 2), (91, .invokevirtual 212, 3)] : List (Nat × Instr × Nat)).all (fun e => decide (decode prog_1_method_14_code e.1 = .ok e.2)) = true := by decide +kernel
abbrev cl_135_1 : List (Nat × jm_O) := [(44, op_iload 1 1), (45, op_iload 2 1), (46, op_callV 4 44 3), (49, op_ifne 65), (52, op_aload 0 1), (53, op_getA 10 3), (56, op_iload 3 1), (57, op_iload 4 2), (59, op_callV 4 44 3), (62, op_ifeq 68), (65, op_ic (-3) 2), (67, op_iret), (68, op_aload 0 1), (69, op_getA 10 3), (72, op_getI 4 4), (75, op_ic 60 2), (77, op_cne 83), (80, op_ic (-4) 2), (82, op_iret), (83, op_aload 0 1), (84, op_getA 10 4), (87, op_iload 1 1), (88, op_iload 3 1), (89, op_lload 6 2), (91, op_callV 9 105 4)]
set_option maxRecDepth 100000 in
theorem gl_135_1 : jm_gl "FrescoWall" prog_1_method_14_code 9 (Option.some Jvm.ClassFile.FieldType.int) false cl_135_1 :=
  jm_gc (pu_iload _ _) (sn_iload_n (i := 1) (jm_dc dc_135_1 0 rfl)) (
  jm_gc (pu_iload _ _) (sn_iload_n (i := 2) (jm_dc dc_135_1 1 rfl)) (
  jm_gc (pu_callV _ _ _) (sn_callV (jm_dc dc_135_1 2 rfl) lk_10_206) (
  jm_gc (pu_ifne _) (sn_ifne (jm_dc dc_135_1 3 rfl) (by decide)) (
  jm_gc (pu_aload _ _) (sn_aload_n (i := 0) (jm_dc dc_135_1 4 rfl)) (
  jm_gc (pu_getA _ _) (sn_getA (jm_dc dc_135_1 5 rfl) fl_10_35 rfl) (
  jm_gc (pu_iload _ _) (sn_iload_n (i := 3) (jm_dc dc_135_1 6 rfl)) (
  jm_gc (pu_iload _ _) (sn_iload (jm_dc dc_135_1 7 rfl)) (
  jm_gc (pu_callV _ _ _) (sn_callV (jm_dc dc_135_1 8 rfl) lk_10_206) (
  jm_gc (pu_ifeq _) (sn_ifeq (jm_dc dc_135_1 9 rfl) (by decide)) (
  jm_gc (pu_ic _ _) (sn_bipush (jm_dc dc_135_1 10 rfl) (by decide)) (
  jm_gc (pu_iret) (sn_iret (jm_dc dc_135_1 11 rfl) rfl) (
  jm_gc (pu_aload _ _) (sn_aload_n (i := 0) (jm_dc dc_135_1 12 rfl)) (
  jm_gc (pu_getA _ _) (sn_getA (jm_dc dc_135_1 13 rfl) fl_10_35 rfl) (
  jm_gc (pu_getI _ _) (sn_getI (jm_dc dc_135_1 14 rfl) fl_10_209 (Or.inl rfl)) (
  jm_gc (pu_ic _ _) (sn_bipush (jm_dc dc_135_1 15 rfl) (by decide)) (
  jm_gc (pu_cne _) (sn_cne (jm_dc dc_135_1 16 rfl) (by decide)) (
  jm_gc (pu_ic _ _) (sn_bipush (jm_dc dc_135_1 17 rfl) (by decide)) (
  jm_gc (pu_iret) (sn_iret (jm_dc dc_135_1 18 rfl) rfl) (
  jm_gc (pu_aload _ _) (sn_aload_n (i := 0) (jm_dc dc_135_1 19 rfl)) (
  jm_gc (pu_getA _ _) (sn_getA (jm_dc dc_135_1 20 rfl) fl_10_44 rfl) (
  jm_gc (pu_iload _ _) (sn_iload_n (i := 1) (jm_dc dc_135_1 21 rfl)) (
  jm_gc (pu_iload _ _) (sn_iload_n (i := 3) (jm_dc dc_135_1 22 rfl)) (
  jm_gc (pu_lload _ _) (sn_lload (jm_dc dc_135_1 23 rfl)) (
  jm_gc (pu_callV _ _ _) (sn_callV (jm_dc dc_135_1 24 rfl) lk_10_212) (
  jm_gn)))))))))))))))))))))))))
theorem dc_135_2 : ([(94, .istore 8, 2), (96, .iload 8, 2), (98, .ifCond .eq 11, 3), (101, .bipush (-10), 2), (103, .iload 8, 2), (105, .isub, 1), (106, .goto 15, 3), (109, .aload_n 0, 1), (110, .getfield 35, 3), (113, .iload_n 1, 1), (114, .iload_n 2, 1), (115, .iload_n 3, 1), (116, .iload 4, 2), (118, .invokevirtual 216, 3), (121, .ireturn, 1)] : List (Nat × Instr × Nat)).all (fun e => decide (decode prog_1_method_14_code e.1 = .ok e.2)) = true := by decide +kernel
abbrev cl_135_2 : List (Nat × jm_O) := [(94, op_istore 8 2), (96, op_iload 8 2), (98, op_ifeq 109), (101, op_ic (-10) 2), (103, op_iload 8 2), (105, op_ibin (fun x y => x - y)), (106, op_goto 121), (109, op_aload 0 1), (110, op_getA 10 3), (113, op_iload 1 1), (114, op_iload 2 1), (115, op_iload 3 1), (116, op_iload 4 2), (118, op_callV 4 45 5), (121, op_iret)]
set_option maxRecDepth 100000 in
theorem gl_135_2 : jm_gl "FrescoWall" prog_1_method_14_code 9 (Option.some Jvm.ClassFile.FieldType.int) false cl_135_2 :=
  jm_gc (pu_istore _ _) (sn_istore (jm_dc dc_135_2 0 rfl)) (
  jm_gc (pu_iload _ _) (sn_iload (jm_dc dc_135_2 1 rfl)) (
  jm_gc (pu_ifeq _) (sn_ifeq (jm_dc dc_135_2 2 rfl) (by decide)) (
  jm_gc (pu_ic _ _) (sn_bipush (jm_dc dc_135_2 3 rfl) (by decide)) (
  jm_gc (pu_iload _ _) (sn_iload (jm_dc dc_135_2 4 rfl)) (
  jm_gc (pu_ibin _) (sn_isub (jm_dc dc_135_2 5 rfl)) (
  jm_gc (pu_goto _) (sn_goto (jm_dc dc_135_2 6 rfl) (by decide)) (
  jm_gc (pu_aload _ _) (sn_aload_n (i := 0) (jm_dc dc_135_2 7 rfl)) (
  jm_gc (pu_getA _ _) (sn_getA (jm_dc dc_135_2 8 rfl) fl_10_35 rfl) (
  jm_gc (pu_iload _ _) (sn_iload_n (i := 1) (jm_dc dc_135_2 9 rfl)) (
  jm_gc (pu_iload _ _) (sn_iload_n (i := 2) (jm_dc dc_135_2 10 rfl)) (
  jm_gc (pu_iload _ _) (sn_iload_n (i := 3) (jm_dc dc_135_2 11 rfl)) (
  jm_gc (pu_iload _ _) (sn_iload (jm_dc dc_135_2 12 rfl)) (
  jm_gc (pu_callV _ _ _) (sn_callV (jm_dc dc_135_2 13 rfl) lk_10_216) (
  jm_gc (pu_iret) (sn_iret (jm_dc dc_135_2 14 rfl) rfl) (
  jm_gn)))))))))))))))
theorem dc_136_0 : ([(0, .aload_n 0, 1), (1, .getfield 35, 3), (4, .iload_n 1, 1), (5, .invokevirtual 219, 3), (8, .ifCond .ne 5, 3), (11, .iconst (-1), 1), (12, .ireturn, 1), (13, .aload_n 0, 1), (14, .getfield 35, 3), (17, .iload_n 1, 1), (18, .invokevirtual 222, 3), (21, .aload_n 0, 1), (22, .getfield 35, 3), (25, .getfield 225, 3), (28, .aload_n 0, 1), (29, .getfield 35, 3), (32, .getfield 228, 3), (35, .iload_n 1, 1), (36, .iaload, 1), (37, .iaload, 1), (38, .aload_n 0, 1), (39, .getfield 35, 3), (42, .getfield 225, 3), (45, .aload_n 0, 1), (46, .getfield 35, 3)] : List (Nat × Instr × Nat)).all (fun e => decide (decode prog_1_method_15_code e.1 = .ok e.2)) = true := by decide +kernel
abbrev cl_136_0 : List (Nat × jm_O) := [(0, op_aload 0 1), (1, op_getA 10 3), (4, op_iload 1 1), (5, op_callV 4 42 2), (8, op_ifne 13), (11, op_ic (-1) 1), (12, op_iret), (13, op_aload 0 1), (14, op_getA 10 3), (17, op_iload 1 1), (18, op_callV 4 46 2), (21, op_aload 0 1), (22, op_getA 10 3), (25, op_getA 4 6), (28, op_aload 0 1), (29, op_getA 10 3), (32, op_getA 4 0), (35, op_iload 1 1), (36, op_iald 13), (37, op_iald 13), (38, op_aload 0 1), (39, op_getA 10 3), (42, op_getA 4 6), (45, op_aload 0 1), (46, op_getA 10 3)]
set_option maxRecDepth 100000 in
theorem gl_136_0 : jm_gl "FrescoWall" prog_1_method_15_code 2 (Option.some Jvm.ClassFile.FieldType.int) false cl_136_0 :=
  jm_gc (pu_aload _ _) (sn_aload_n (i := 0) (jm_dc dc_136_0 0 rfl)) (
  jm_gc (pu_getA _ _) (sn_getA (jm_dc dc_136_0 1 rfl) fl_10_35 rfl) (
  jm_gc (pu_iload _ _) (sn_iload_n (i := 1) (jm_dc dc_136_0 2 rfl)) (
  jm_gc (pu_callV _ _ _) (sn_callV (jm_dc dc_136_0 3 rfl) lk_10_219) (
  jm_gc (pu_ifne _) (sn_ifne (jm_dc dc_136_0 4 rfl) (by decide)) (
  jm_gc (pu_ic _ _) (sn_iconst (jm_dc dc_136_0 5 rfl) (by decide)) (
  jm_gc (pu_iret) (sn_iret (jm_dc dc_136_0 6 rfl) rfl) (
  jm_gc (pu_aload _ _) (sn_aload_n (i := 0) (jm_dc dc_136_0 7 rfl)) (
  jm_gc (pu_getA _ _) (sn_getA (jm_dc dc_136_0 8 rfl) fl_10_35 rfl) (
  jm_gc (pu_iload _ _) (sn_iload_n (i := 1) (jm_dc dc_136_0 9 rfl)) (
  jm_gc (pu_callV _ _ _) (sn_callV (jm_dc dc_136_0 10 rfl) lk_10_222) (
  jm_gc (pu_aload _ _) (sn_aload_n (i := 0) (jm_dc dc_136_0 11 rfl)) (
  jm_gc (pu_getA _ _) (sn_getA (jm_dc dc_136_0 12 rfl) fl_10_35 rfl) (
  jm_gc (pu_getA _ _) (sn_getA (jm_dc dc_136_0 13 rfl) fl_10_225 rfl) (
  jm_gc (pu_aload _ _) (sn_aload_n (i := 0) (jm_dc dc_136_0 14 rfl)) (
  jm_gc (pu_getA _ _) (sn_getA (jm_dc dc_136_0 15 rfl) fl_10_35 rfl) (
  jm_gc (pu_getA _ _) (sn_getA (jm_dc dc_136_0 16 rfl) fl_10_228 rfl) (
  jm_gc (pu_iload _ _) (sn_iload_n (i := 1) (jm_dc dc_136_0 17 rfl)) (
  jm_gc (pu_iald _) (sn_iald (jm_dc dc_136_0 18 rfl)) (
  jm_gc (pu_iald _) (sn_iald (jm_dc dc_136_0 19 rfl)) (
  jm_gc (pu_aload _ _) (sn_aload_n (i := 0) (jm_dc dc_136_0 20 rfl)) (
  jm_gc (pu_getA _ _) (sn_getA (jm_dc dc_136_0 21 rfl) fl_10_35 rfl) (
  jm_gc (pu_getA _ _) (sn_getA (jm_dc dc_136_0 22 rfl) fl_10_225 rfl) (
  jm_gc (pu_aload _ _) (sn_aload_n (i := 0) (jm_dc dc_136_0 23 rfl)) (
  jm_gc (pu_getA _ _) (sn_getA (jm_dc dc_136_0 24 rfl) fl_10_35 rfl) (
  jm_gn)))))))))))))))))))))))))
theorem dc_136_1 : ([(49, .getfield 231, 3), (52, .iload_n 1, 1), (53, .iaload, 1), (54, .iaload, 1), (55, .ior, 1), (56, .invokestatic 234, 3), (59, .ireturn, 1)] : List (Nat × Instr × Nat)).all (fun e => decide (decode prog_1_method_15_code e.1 = .ok e.2)) = true := by decide +kernel
abbrev cl_136_1 : List (Nat × jm_O) := [(49, op_getA 4 2), (52, op_iload 1 1), (53, op_iald 13), (54, op_iald 13), (55, op_ibin (fun x y => x ||| y)), (56, op_callS 317 1), (59, op_iret)]
set_option maxRecDepth 100000 in
theorem gl_136_1 : jm_gl "FrescoWall" prog_1_method_15_code 2 (Option.some Jvm.ClassFile.FieldType.int) false cl_136_1 :=
  jm_gc (pu_getA _ _) (sn_getA (jm_dc dc_136_1 0 rfl) fl_10_231 rfl) (
  jm_gc (pu_iload _ _) (sn_iload_n (i := 1) (jm_dc dc_136_1 1 rfl)) (
  jm_gc (pu_iald _) (sn_iald (jm_dc dc_136_1 2 rfl)) (
  jm_gc (pu_iald _) (sn_iald (jm_dc dc_136_1 3 rfl)) (
  jm_gc (pu_ibin _) (sn_ior (jm_dc dc_136_1 4 rfl)) (
  jm_gc (pu_callS _ _) (sn_callS (jm_dc dc_136_1 5 rfl) lk_10_234) (
  jm_gc (pu_iret) (sn_iret (jm_dc dc_136_1 6 rfl) rfl) (
  jm_gn)))))))
theorem dc_137_0 : ([(0, .aload_n 0, 1), (1, .getfield 35, 3), (4, .iload_n 1, 1), (5, .invokevirtual 219, 3), (8, .ifCond .ne 5, 3), (11, .iconst (-1), 1), (12, .ireturn, 1), (13, .iload_n 2, 1), (14, .tableswitch 88 0 4 #[34, 44, 54, 64, 74], 34), (48, .aload_n 0, 1), (49, .getfield 35, 3), (52, .getfield 228, 3), (55, .iload_n 1, 1), (56, .iaload, 1), (57, .ireturn, 1), (58, .aload_n 0, 1), (59, .getfield 35, 3), (62, .getfield 240, 3), (65, .iload_n 1, 1), (66, .iaload, 1), (67, .ireturn, 1), (68, .aload_n 0, 1), (69, .getfield 35, 3), (72, .getfield 231, 3), (75, .iload_n 1, 1)] : List (Nat × Instr × Nat)).all (fun e => decide (decode prog_1_method_16_code e.1 = .ok e.2)) = true := by decide +kernel
abbrev cl_137_0 : List (Nat × jm_O) := [(0, op_aload 0 1), (1, op_getA 10 3), (4, op_iload 1 1), (5, op_callV 4 42 2), (8, op_ifne 13), (11, op_ic (-1) 1), (12, op_iret), (13, op_iload 2 1), (14, op_sw 102 [(0, 48), (1, 58), (2, 68), (3, 78), (4, 88)]), (48, op_aload 0 1), (49, op_getA 10 3), (52, op_getA 4 0), (55, op_iload 1 1), (56, op_iald 13), (57, op_iret), (58, op_aload 0 1), (59, op_getA 10 3), (62, op_getA 4 1), (65, op_iload 1 1), (66, op_iald 13), (67, op_iret), (68, op_aload 0 1), (69, op_getA 10 3), (72, op_getA 4 2), (75, op_iload 1 1)]
set_option maxRecDepth 100000 in
theorem gl_137_0 : jm_gl "FrescoWall" prog_1_method_16_code 3 (Option.some Jvm.ClassFile.FieldType.int) false cl_137_0 :=
  jm_gc (pu_aload _ _) (sn_aload_n (i := 0) (jm_dc dc_137_0 0 rfl)) (
  jm_gc (pu_getA _ _) (sn_getA (jm_dc dc_137_0 1 rfl) fl_10_35 rfl) (
  jm_gc (pu_iload _ _) (sn_iload_n (i := 1) (jm_dc dc_137_0 2 rfl)) (
  jm_gc (pu_callV _ _ _) (sn_callV (jm_dc dc_137_0 3 rfl) lk_10_219) (
  jm_gc (pu_ifne _) (sn_ifne (jm_dc dc_137_0 4 rfl) (by decide)) (
  jm_gc (pu_ic _ _) (sn_iconst (jm_dc dc_137_0 5 rfl) (by decide)) (
  jm_gc (pu_iret) (sn_iret (jm_dc dc_137_0 6 rfl) rfl) (
  jm_gc (pu_iload _ _) (sn_iload_n (i := 2) (jm_dc dc_137_0 7 rfl)) (
  jm_gc (pu_sw _ _) (sn_tsw (jm_dc dc_137_0 8 rfl) (by decide) (by decide) (by decide)) (
  jm_gc (pu_aload _ _) (sn_aload_n (i := 0) (jm_dc dc_137_0 9 rfl)) (
  jm_gc (pu_getA _ _) (sn_getA (jm_dc dc_137_0 10 rfl) fl_10_35 rfl) (
  jm_gc (pu_getA _ _) (sn_getA (jm_dc dc_137_0 11 rfl) fl_10_228 rfl) (
  jm_gc (pu_iload _ _) (sn_iload_n (i := 1) (jm_dc dc_137_0 12 rfl)) (
  jm_gc (pu_iald _) (sn_iald (jm_dc dc_137_0 13 rfl)) (
  jm_gc (pu_iret) (sn_iret (jm_dc dc_137_0 14 rfl) rfl) (
  jm_gc (pu_aload _ _) (sn_aload_n (i := 0) (jm_dc dc_137_0 15 rfl)) (
  jm_gc (pu_getA _ _) (sn_getA (jm_dc dc_137_0 16 rfl) fl_10_35 rfl) (
  jm_gc (pu_getA _ _) (sn_getA (jm_dc dc_137_0 17 rfl) fl_10_240 rfl) (
  jm_gc (pu_iload _ _) (sn_iload_n (i := 1) (jm_dc dc_137_0 18 rfl)) (
  jm_gc (pu_iald _) (sn_iald (jm_dc dc_137_0 19 rfl)) (
  jm_gc (pu_iret) (sn_iret (jm_dc dc_137_0 20 rfl) rfl) (
  jm_gc (pu_aload _ _) (sn_aload_n (i := 0) (jm_dc dc_137_0 21 rfl)) (
  jm_gc (pu_getA _ _) (sn_getA (jm_dc dc_137_0 22 rfl) fl_10_35 rfl) (
  jm_gc (pu_getA _ _) (sn_getA (jm_dc dc_137_0 23 rfl) fl_10_231 rfl) (
  jm_gc (pu_iload _ _) (sn_iload_n (i := 1) (jm_dc dc_137_0 24 rfl)) (
  jm_gn)))))))))))))))))))))))))
theorem dc_137_1 : ([(76, .iaload, 1), (77, .ireturn, 1), (78, .aload_n 0, 1), (79, .getfield 35, 3), (82, .getfield 243, 3), (85, .iload_n 1, 1), (86, .iaload, 1), (87, .ireturn, 1), (88, .aload_n 0, 1), (89, .iload_n 1, 1), (90, .invokevirtual 246, 3), (93, .ifCond .eq 7, 3), (96, .iconst 1, 1), (97, .goto 4, 3), (100, .iconst 0, 1), (101, .ireturn, 1), (102, .iconst (-1), 1), (103, .ireturn, 1)] : List (Nat × Instr × Nat)).all (fun e => decide (decode prog_1_method_16_code e.1 = .ok e.2)) = true := by decide +kernel
abbrev cl_137_1 : List (Nat × jm_O) := [(76, op_iald 13), (77, op_iret), (78, op_aload 0 1), (79, op_getA 10 3), (82, op_getA 4 3), (85, op_iload 1 1), (86, op_iald 13), (87, op_iret), (88, op_aload 0 1), (89, op_iload 1 1), (90, op_callV 10 162 2), (93, op_ifeq 100), (96, op_ic 1 1), (97, op_goto 101), (100, op_ic 0 1), (101, op_iret), (102, op_ic (-1) 1), (103, op_iret)]
set_option maxRecDepth 100000 in
theorem gl_137_1 : jm_gl "FrescoWall" prog_1_method_16_code 3 (Option.some Jvm.ClassFile.FieldType.int) false cl_137_1 :=
  jm_gc (pu_iald _) (sn_iald (jm_dc dc_137_1 0 rfl)) (
  jm_gc (pu_iret) (sn_iret (jm_dc dc_137_1 1 rfl) rfl) (
  jm_gc (pu_aload _ _) (sn_aload_n (i := 0) (jm_dc dc_137_1 2 rfl)) (
  jm_gc (pu_getA _ _) (sn_getA (jm_dc dc_137_1 3 rfl) fl_10_35 rfl) (
  jm_gc (pu_getA _ _) (sn_getA (jm_dc dc_137_1 4 rfl) fl_10_243 rfl) (
  jm_gc (pu_iload _ _) (sn_iload_n (i := 1) (jm_dc dc_137_1 5 rfl)) (
  jm_gc (pu_iald _) (sn_iald (jm_dc dc_137_1 6 rfl)) (
  jm_gc (pu_iret) (sn_iret (jm_dc dc_137_1 7 rfl) rfl) (
  jm_gc (pu_aload _ _) (sn_aload_n (i := 0) (jm_dc dc_137_1 8 rfl)) (
  jm_gc (pu_iload _ _) (sn_iload_n (i := 1) (jm_dc dc_137_1 9 rfl)) (
  jm_gc (pu_callV _ _ _) (sn_callV (jm_dc dc_137_1 10 rfl) lk_10_246) (
  jm_gc (pu_ifeq _) (sn_ifeq (jm_dc dc_137_1 11 rfl) (by decide)) (
  jm_gc (pu_ic _ _) (sn_iconst (jm_dc dc_137_1 12 rfl) (by decide)) (
  jm_gc (pu_goto _) (sn_goto (jm_dc dc_137_1 13 rfl) (by decide)) (
  jm_gc (pu_ic _ _) (sn_iconst (jm_dc dc_137_1 14 rfl) (by decide)) (
  jm_gc (pu_iret) (sn_iret (jm_dc dc_137_1 15 rfl) rfl) (
  jm_gc (pu_ic _ _) (sn_iconst (jm_dc dc_137_1 16 rfl) (by decide)) (
  jm_gc (pu_iret) (sn_iret (jm_dc dc_137_1 17 rfl) rfl) (
  jm_gn))))))))))))))))))
theorem dc_138_0 : ([(0, .aload_n 0, 1), (1, .iload_n 1, 1), (2, .invokevirtual 113, 3), (5, .ifCond .ne 5, 3), (8, .iconst (-1), 1), (9, .ireturn, 1), (10, .aload_n 0, 1), (11, .getfield 35, 3), (14, .getfield 225, 3), (17, .iload_n 1, 1), (18, .iaload, 1), (19, .istore_n 3, 1), (20, .iload_n 2, 1), (21, .tableswitch 46 0 2 #[27, 32, 37], 27), (48, .iload_n 3, 1), (49, .invokestatic 249, 3), (52, .ireturn, 1), (53, .iload_n 3, 1), (54, .invokestatic 234, 3), (57, .ireturn, 1), (58, .aload_n 0, 1), (59, .getfield 35, 3), (62, .iload_n 3, 1), (63, .invokevirtual 252, 3), (66, .ireturn, 1)] : List (Nat × Instr × Nat)).all (fun e => decide (decode prog_1_method_17_code e.1 = .ok e.2)) = true := by decide +kernel
abbrev cl_138_0 : List (Nat × jm_O) := [(0, op_aload 0 1), (1, op_iload 1 1), (2, op_callV 10 160 2), (5, op_ifne 10), (8, op_ic (-1) 1), (9, op_iret), (10, op_aload 0 1), (11, op_getA 10 3), (14, op_getA 4 6), (17, op_iload 1 1), (18, op_iald 13), (19, op_istore 3 1), (20, op_iload 2 1), (21, op_sw 67 [(0, 48), (1, 53), (2, 58)]), (48, op_iload 3 1), (49, op_callS 319 1), (52, op_iret), (53, op_iload 3 1), (54, op_callS 317 1), (57, op_iret), (58, op_aload 0 1), (59, op_getA 10 3), (62, op_iload 3 1), (63, op_callV 4 50 2), (66, op_iret)]
set_option maxRecDepth 100000 in
theorem gl_138_0 : jm_gl "FrescoWall" prog_1_method_17_code 4 (Option.some Jvm.ClassFile.FieldType.int) false cl_138_0 :=
  jm_gc (pu_aload _ _) (sn_aload_n (i := 0) (jm_dc dc_138_0 0 rfl)) (
  jm_gc (pu_iload _ _) (sn_iload_n (i := 1) (jm_dc dc_138_0 1 rfl)) (
  jm_gc (pu_callV _ _ _) (sn_callV (jm_dc dc_138_0 2 rfl) lk_10_113) (
  jm_gc (pu_ifne _) (sn_ifne (jm_dc dc_138_0 3 rfl) (by decide)) (
  jm_gc (pu_ic _ _) (sn_iconst (jm_dc dc_138_0 4 rfl) (by decide)) (
  jm_gc (pu_iret) (sn_iret (jm_dc dc_138_0 5 rfl) rfl) (
  jm_gc (pu_aload _ _) (sn_aload_n (i := 0) (jm_dc dc_138_0 6 rfl)) (
  jm_gc (pu_getA _ _) (sn_getA (jm_dc dc_138_0 7 rfl) fl_10_35 rfl) (
  jm_gc (pu_getA _ _) (sn_getA (jm_dc dc_138_0 8 rfl) fl_10_225 rfl) (
  jm_gc (pu_iload _ _) (sn_iload_n (i := 1) (jm_dc dc_138_0 9 rfl)) (
  jm_gc (pu_iald _) (sn_iald (jm_dc dc_138_0 10 rfl)) (
  jm_gc (pu_istore _ _) (sn_istore_n (i := 3) (jm_dc dc_138_0 11 rfl)) (
  jm_gc (pu_iload _ _) (sn_iload_n (i := 2) (jm_dc dc_138_0 12 rfl)) (
  jm_gc (pu_sw _ _) (sn_tsw (jm_dc dc_138_0 13 rfl) (by decide) (by decide) (by decide)) (
  jm_gc (pu_iload _ _) (sn_iload_n (i := 3) (jm_dc dc_138_0 14 rfl)) (
  jm_gc (pu_callS _ _) (sn_callS (jm_dc dc_138_0 15 rfl) lk_10_249) (
  jm_gc (pu_iret) (sn_iret (jm_dc dc_138_0 16 rfl) rfl) (
  jm_gc (pu_iload _ _) (sn_iload_n (i := 3) (jm_dc dc_138_0 17 rfl)) (
  jm_gc (pu_callS _ _) (sn_callS (jm_dc dc_138_0 18 rfl) lk_10_234) (
  jm_gc (pu_iret) (sn_iret (jm_dc dc_138_0 19 rfl) rfl) (
  jm_gc (pu_aload _ _) (sn_aload_n (i := 0) (jm_dc dc_138_0 20 rfl)) (
  jm_gc (pu_getA _ _) (sn_getA (jm_dc dc_138_0 21 rfl) fl_10_35 rfl) (
  jm_gc (pu_iload _ _) (sn_iload_n (i := 3) (jm_dc dc_138_0 22 rfl)) (
  jm_gc (pu_callV _ _ _) (sn_callV (jm_dc dc_138_0 23 rfl) lk_10_252) (
  jm_gc (pu_iret) (sn_iret (jm_dc dc_138_0 24 rfl) rfl) (
  jm_gn)))))))))))))))))))))))))
theorem dc_138_1 : ([(67, .iconst (-1), 1), (68, .ireturn, 1)] : List (Nat × Instr × Nat)).all (fun e => decide (decode prog_1_method_17_code e.1 = .ok e.2)) = true := by decide +kernel
abbrev cl_138_1 : List (Nat × jm_O) := [(67, op_ic (-1) 1), (68, op_iret)]
set_option maxRecDepth 100000 in
theorem gl_138_1 : jm_gl "FrescoWall" prog_1_method_17_code 4 (Option.some Jvm.ClassFile.FieldType.int) false cl_138_1 :=
  jm_gc (pu_ic _ _) (sn_iconst (jm_dc dc_138_1 0 rfl) (by decide)) (
  jm_gc (pu_iret) (sn_iret (jm_dc dc_138_1 1 rfl) rfl) (
  jm_gn))
theorem dc_139_0 : ([(0, .aload_n 0, 1), (1, .getfield 44, 3), (4, .getfield 255, 3), (7, .ifCond .ne 5, 3), (10, .iconst (-1), 1), (11, .ireturn, 1), (12, .iload_n 1, 1), (13, .tableswitch 63 0 3 #[31, 39, 47, 55], 31), (44, .aload_n 0, 1), (45, .getfield 44, 3), (48, .getfield 255, 3), (51, .ireturn, 1), (52, .aload_n 0, 1), (53, .getfield 44, 3), (56, .getfield 258, 3), (59, .ireturn, 1), (60, .aload_n 0, 1), (61, .getfield 44, 3), (64, .getfield 261, 3), (67, .ireturn, 1), (68, .aload_n 0, 1), (69, .getfield 44, 3), (72, .getfield 264, 3), (75, .ireturn, 1), (76, .iload_n 1, 1)] : List (Nat × Instr × Nat)).all (fun e => decide (decode prog_1_method_18_code e.1 = .ok e.2)) = true := by decide +kernel
abbrev cl_139_0 : List (Nat × jm_O) := [(0, op_aload 0 1), (1, op_getA 10 4), (4, op_getI 9 5), (7, op_ifne 12), (10, op_ic (-1) 1), (11, op_iret), (12, op_iload 1 1), (13, op_sw 76 [(0, 44), (1, 52), (2, 60), (3, 68)]), (44, op_aload 0 1), (45, op_getA 10 4), (48, op_getI 9 5), (51, op_iret), (52, op_aload 0 1), (53, op_getA 10 4), (56, op_getI 9 8), (59, op_iret), (60, op_aload 0 1), (61, op_getA 10 4), (64, op_getI 9 6), (67, op_iret), (68, op_aload 0 1), (69, op_getA 10 4), (72, op_getI 9 7), (75, op_iret), (76, op_iload 1 1)]
set_option maxRecDepth 100000 in
theorem gl_139_0 : jm_gl "FrescoWall" prog_1_method_18_code 2 (Option.some Jvm.ClassFile.FieldType.int) false cl_139_0 :=
  jm_gc (pu_aload _ _) (sn_aload_n (i := 0) (jm_dc dc_139_0 0 rfl)) (
  jm_gc (pu_getA _ _) (sn_getA (jm_dc dc_139_0 1 rfl) fl_10_44 rfl) (
  jm_gc (pu_getI _ _) (sn_getI (jm_dc dc_139_0 2 rfl) fl_10_255 (Or.inl rfl)) (
  jm_gc (pu_ifne _) (sn_ifne (jm_dc dc_139_0 3 rfl) (by decide)) (
  jm_gc (pu_ic _ _) (sn_iconst (jm_dc dc_139_0 4 rfl) (by decide)) (
  jm_gc (pu_iret) (sn_iret (jm_dc dc_139_0 5 rfl) rfl) (
  jm_gc (pu_iload _ _) (sn_iload_n (i := 1) (jm_dc dc_139_0 6 rfl)) (
  jm_gc (pu_sw _ _) (sn_tsw (jm_dc dc_139_0 7 rfl) (by decide) (by decide) (by decide)) (
  jm_gc (pu_aload _ _) (sn_aload_n (i := 0) (jm_dc dc_139_0 8 rfl)) (
  jm_gc (pu_getA _ _) (sn_getA (jm_dc dc_139_0 9 rfl) fl_10_44 rfl) (
  jm_gc (pu_getI _ _) (sn_getI (jm_dc dc_139_0 10 rfl) fl_10_255 (Or.inl rfl)) (
  jm_gc (pu_iret) (sn_iret (jm_dc dc_139_0 11 rfl) rfl) (
  jm_gc (pu_aload _ _) (sn_aload_n (i := 0) (jm_dc dc_139_0 12 rfl)) (
  jm_gc (pu_getA _ _) (sn_getA (jm_dc dc_139_0 13 rfl) fl_10_44 rfl) (
  jm_gc (pu_getI _ _) (sn_getI (jm_dc dc_139_0 14 rfl) fl_10_258 (Or.inl rfl)) (
  jm_gc (pu_iret) (sn_iret (jm_dc dc_139_0 15 rfl) rfl) (
  jm_gc (pu_aload _ _) (sn_aload_n (i := 0) (jm_dc dc_139_0 16 rfl)) (
  jm_gc (pu_getA _ _) (sn_getA (jm_dc dc_139_0 17 rfl) fl_10_44 rfl) (
  jm_gc (pu_getI _ _) (sn_getI (jm_dc dc_139_0 18 rfl) fl_10_261 (Or.inl rfl)) (
  jm_gc (pu_iret) (sn_iret (jm_dc dc_139_0 19 rfl) rfl) (
  jm_gc (pu_aload _ _) (sn_aload_n (i := 0) (jm_dc dc_139_0 20 rfl)) (
  jm_gc (pu_getA _ _) (sn_getA (jm_dc dc_139_0 21 rfl) fl_10_44 rfl) (
  jm_gc (pu_getI _ _) (sn_getI (jm_dc dc_139_0 22 rfl) fl_10_264 (Or.inl rfl)) (
  jm_gc (pu_iret) (sn_iret (jm_dc dc_139_0 23 rfl) rfl) (
  jm_gc (pu_iload _ _) (sn_iload_n (i := 1) (jm_dc dc_139_0 24 rfl)) (
  jm_gn)))))))))))))))))))))))))
theorem dc_139_1 : ([(77, .bipush 10, 2), (79, .if_icmp .lt 32, 3), (82, .iload_n 1, 1), (83, .bipush 10, 2), (85, .isub, 1), (86, .aload_n 0, 1), (87, .getfield 44, 3), (90, .getfield 258, 3), (93, .if_icmp .ge 18, 3), (96, .aload_n 0, 1), (97, .getfield 44, 3), (100, .getfield 267, 3), (103, .iload_n 1, 1), (104, .bipush 10, 2), (106, .isub, 1), (107, .iaload, 1), (108, .goto 4, 3), (111, .iconst (-1), 1), (112, .ireturn, 1)] : List (Nat × Instr × Nat)).all (fun e => decide (decode prog_1_method_18_code e.1 = .ok e.2)) = true := by decide +kernel
abbrev cl_139_1 : List (Nat × jm_O) := [(77, op_ic 10 2), (79, op_clt 111), (82, op_iload 1 1), (83, op_ic 10 2), (85, op_ibin (fun x y => x - y)), (86, op_aload 0 1), (87, op_getA 10 4), (90, op_getI 9 8), (93, op_cge 111), (96, op_aload 0 1), (97, op_getA 10 4), (100, op_getA 9 9), (103, op_iload 1 1), (104, op_ic 10 2), (106, op_ibin (fun x y => x - y)), (107, op_iald 13), (108, op_goto 112), (111, op_ic (-1) 1), (112, op_iret)]
set_option maxRecDepth 100000 in
theorem gl_139_1 : jm_gl "FrescoWall" prog_1_method_18_code 2 (Option.some Jvm.ClassFile.FieldType.int) false cl_139_1 :=
  jm_gc (pu_ic _ _) (sn_bipush (jm_dc dc_139_1 0 rfl) (by decide)) (
  jm_gc (pu_clt _) (sn_clt (jm_dc dc_139_1 1 rfl) (by decide)) (
  jm_gc (pu_iload _ _) (sn_iload_n (i := 1) (jm_dc dc_139_1 2 rfl)) (
  jm_gc (pu_ic _ _) (sn_bipush (jm_dc dc_139_1 3 rfl) (by decide)) (
  jm_gc (pu_ibin _) (sn_isub (jm_dc dc_139_1 4 rfl)) (
  jm_gc (pu_aload _ _) (sn_aload_n (i := 0) (jm_dc dc_139_1 5 rfl)) (
  jm_gc (pu_getA _ _) (sn_getA (jm_dc dc_139_1 6 rfl) fl_10_44 rfl) (
  jm_gc (pu_getI _ _) (sn_getI (jm_dc dc_139_1 7 rfl) fl_10_258 (Or.inl rfl)) (
  jm_gc (pu_cge _) (sn_cge (jm_dc dc_139_1 8 rfl) (by decide)) (
  jm_gc (pu_aload _ _) (sn_aload_n (i := 0) (jm_dc dc_139_1 9 rfl)) (
  jm_gc (pu_getA _ _) (sn_getA (jm_dc dc_139_1 10 rfl) fl_10_44 rfl) (
  jm_gc (pu_getA _ _) (sn_getA (jm_dc dc_139_1 11 rfl) fl_10_267 rfl) (
  jm_gc (pu_iload _ _) (sn_iload_n (i := 1) (jm_dc dc_139_1 12 rfl)) (
  jm_gc (pu_ic _ _) (sn_bipush (jm_dc dc_139_1 13 rfl) (by decide)) (
  jm_gc (pu_ibin _) (sn_isub (jm_dc dc_139_1 14 rfl)) (
  jm_gc (pu_iald _) (sn_iald (jm_dc dc_139_1 15 rfl)) (
  jm_gc (pu_goto _) (sn_goto (jm_dc dc_139_1 16 rfl) (by decide)) (
  jm_gc (pu_ic _ _) (sn_iconst (jm_dc dc_139_1 17 rfl) (by decide)) (
  jm_gc (pu_iret) (sn_iret (jm_dc dc_139_1 18 rfl) rfl) (
  jm_gn)))))))))))))))))))
theorem dc_140_0 : ([(0, .aload_n 0, 1), (1, .iload_n 1, 1), (2, .invokevirtual 113, 3), (5, .ifCond .ne 5, 3), (8, .iconst (-1), 1), (9, .ireturn, 1), (10, .iload_n 2, 1), (11, .iload_n 3, 1), (12, .iload 4, 2), (14, .invokestatic 157, 3), (17, .ifCond .ne 6, 3), (20, .bipush (-2), 2), (22, .ireturn, 1), (23, .aload_n 0, 1), (24, .getfield 44, 3), (27, .iload_n 1, 1), (28, .iload_n 2, 1), (29, .iload_n 3, 1), (30, .iload 4, 2), (32, .invokestatic 270, 3), (35, .invokevirtual 274, 3), (38, .istore 5, 2), (40, .iload 5, 2), (42, .ifCond .eq 11, 3), (45, .bipush (-10), 2)] : List (Nat × Instr × Nat)).all (fun e => decide (decode prog_1_method_19_code e.1 = .ok e.2)) = true := by decide +kernel
abbrev cl_140_0 : List (Nat × jm_O) := [(0, op_aload 0 1), (1, op_iload 1 1), (2, op_callV 10 160 2), (5, op_ifne 10), (8, op_ic (-1) 1), (9, op_iret), (10, op_iload 2 1), (11, op_iload 3 1), (12, op_iload 4 2), (14, op_callS 166 3), (17, op_ifne 23), (20, op_ic (-2) 2), (22, op_iret), (23, op_aload 0 1), (24, op_getA 10 4), (27, op_iload 1 1), (28, op_iload 2 1), (29, op_iload 3 1), (30, op_iload 4 2), (32, op_callS 305 3), (35, op_callV 9 114 3), (38, op_istore 5 2), (40, op_iload 5 2), (42, op_ifeq 53), (45, op_ic (-10) 2)]
set_option maxRecDepth 100000 in
theorem gl_140_0 : jm_gl "FrescoWall" prog_1_method_19_code 6 (Option.some Jvm.ClassFile.FieldType.int) false cl_140_0 :=
  jm_gc (pu_aload _ _) (sn_aload_n (i := 0) (jm_dc dc_140_0 0 rfl)) (
  jm_gc (pu_iload _ _) (sn_iload_n (i := 1) (jm_dc dc_140_0 1 rfl)) (
  jm_gc (pu_callV _ _ _) (sn_callV (jm_dc dc_140_0 2 rfl) lk_10_113) (
  jm_gc (pu_ifne _) (sn_ifne (jm_dc dc_140_0 3 rfl) (by decide)) (
  jm_gc (pu_ic _ _) (sn_iconst (jm_dc dc_140_0 4 rfl) (by decide)) (
  jm_gc (pu_iret) (sn_iret (jm_dc dc_140_0 5 rfl) rfl) (
  jm_gc (pu_iload _ _) (sn_iload_n (i := 2) (jm_dc dc_140_0 6 rfl)) (
  jm_gc (pu_iload _ _) (sn_iload_n (i := 3) (jm_dc dc_140_0 7 rfl)) (
  jm_gc (pu_iload _ _) (sn_iload (jm_dc dc_140_0 8 rfl)) (
  jm_gc (pu_callS _ _) (sn_callS (jm_dc dc_140_0 9 rfl) lk_10_157) (
  jm_gc (pu_ifne _) (sn_ifne (jm_dc dc_140_0 10 rfl) (by decide)) (
  jm_gc (pu_ic _ _) (sn_bipush (jm_dc dc_140_0 11 rfl) (by decide)) (
  jm_gc (pu_iret) (sn_iret (jm_dc dc_140_0 12 rfl) rfl) (
  jm_gc (pu_aload _ _) (sn_aload_n (i := 0) (jm_dc dc_140_0 13 rfl)) (
  jm_gc (pu_getA _ _) (sn_getA (jm_dc dc_140_0 14 rfl) fl_10_44 rfl) (
  jm_gc (pu_iload _ _) (sn_iload_n (i := 1) (jm_dc dc_140_0 15 rfl)) (
  jm_gc (pu_iload _ _) (sn_iload_n (i := 2) (jm_dc dc_140_0 16 rfl)) (
  jm_gc (pu_iload _ _) (sn_iload_n (i := 3) (jm_dc dc_140_0 17 rfl)) (
  jm_gc (pu_iload _ _) (sn_iload (jm_dc dc_140_0 18 rfl)) (
  jm_gc (pu_callS _ _) (sn_callS (jm_dc dc_140_0 19 rfl) lk_10_270) (
  jm_gc (pu_callV _ _ _) (sn_callV (jm_dc dc_140_0 20 rfl) lk_10_274) (
  jm_gc (pu_istore _ _) (sn_istore (jm_dc dc_140_0 21 rfl)) (
  jm_gc (pu_iload _ _) (sn_iload (jm_dc dc_140_0 22 rfl)) (
  jm_gc (pu_ifeq _) (sn_ifeq (jm_dc dc_140_0 23 rfl) (by decide)) (
  jm_gc (pu_ic _ _) (sn_bipush (jm_dc dc_140_0 24 rfl) (by decide)) (
  jm_gn)))))))))))))))))))))))))
theorem dc_140_1 : ([(47, .iload 5, 2), (49, .isub, 1), (50, .goto 15, 3), (53, .aload_n 0, 1), (54, .getfield 35, 3), (57, .getfield 225, 3), (60, .iload_n 1, 1), (61, .iaload, 1), (62, .invokestatic 234, 3), (65, .ireturn, 1)] : List (Nat × Instr × Nat)).all (fun e => decide (decode prog_1_method_19_code e.1 = .ok e.2)) = true := by decide +kernel
abbrev cl_140_1 : List (Nat × jm_O) := [(47, op_iload 5 2), (49, op_ibin (fun x y => x - y)), (50, op_goto 65), (53, op_aload 0 1), (54, op_getA 10 3), (57, op_getA 4 6), (60, op_iload 1 1), (61, op_iald 13), (62, op_callS 317 1), (65, op_iret)]
set_option maxRecDepth 100000 in
theorem gl_140_1 : jm_gl "FrescoWall" prog_1_method_19_code 6 (Option.some Jvm.ClassFile.FieldType.int) false cl_140_1 :=
  jm_gc (pu_iload _ _) (sn_iload (jm_dc dc_140_1 0 rfl)) (
  jm_gc (pu_ibin _) (sn_isub (jm_dc dc_140_1 1 rfl)) (
  jm_gc (pu_goto _) (sn_goto (jm_dc dc_140_1 2 rfl) (by decide)) (
  jm_gc (pu_aload _ _) (sn_aload_n (i := 0) (jm_dc dc_140_1 3 rfl)) (
  jm_gc (pu_getA _ _) (sn_getA (jm_dc dc_140_1 4 rfl) fl_10_35 rfl) (
  jm_gc (pu_getA _ _) (sn_getA (jm_dc dc_140_1 5 rfl) fl_10_225 rfl) (
  jm_gc (pu_iload _ _) (sn_iload_n (i := 1) (jm_dc dc_140_1 6 rfl)) (
  jm_gc (pu_iald _) (sn_iald (jm_dc dc_140_1 7 rfl)) (
  jm_gc (pu_callS _ _) (sn_callS (jm_dc dc_140_1 8 rfl) lk_10_234) (
  jm_gc (pu_iret) (sn_iret (jm_dc dc_140_1 9 rfl) rfl) (
  jm_gn))))))))))
theorem dc_141_0 : ([(0, .aload_n 0, 1), (1, .iload_n 1, 1), (2, .invokevirtual 113, 3), (5, .ifCond .ne 5, 3), (8, .iconst (-1), 1), (9, .ireturn, 1), (10, .aload_n 0, 1), (11, .getfield 44, 3), (14, .iload_n 1, 1), (15, .invokevirtual 278, 3), (18, .ifCond .ne 6, 3), (21, .bipush (-3), 2), (23, .ireturn, 1), (24, .aload_n 0, 1), (25, .getfield 44, 3), (28, .iload_n 1, 1), (29, .invokevirtual 281, 3), (32, .iconst 1, 1), (33, .ireturn, 1)] : List (Nat × Instr × Nat)).all (fun e => decide (decode prog_1_method_20_code e.1 = .ok e.2)) = true := by decide +kernel
abbrev cl_141_0 : List (Nat × jm_O) := [(0, op_aload 0 1), (1, op_iload 1 1), (2, op_callV 10 160 2), (5, op_ifne 10), (8, op_ic (-1) 1), (9, op_iret), (10, op_aload 0 1), (11, op_getA 10 4), (14, op_iload 1 1), (15, op_callV 9 100 2), (18, op_ifne 24), (21, op_ic (-3) 2), (23, op_iret), (24, op_aload 0 1), (25, op_getA 10 4), (28, op_iload 1 1), (29, op_callV 9 115 2), (32, op_ic 1 1), (33, op_iret)]
set_option maxRecDepth 100000 in
theorem gl_141_0 : jm_gl "FrescoWall" prog_1_method_20_code 2 (Option.some Jvm.ClassFile.FieldType.int) false cl_141_0 :=
  jm_gc (pu_aload _ _) (sn_aload_n (i := 0) (jm_dc dc_141_0 0 rfl)) (
  jm_gc (pu_iload _ _) (sn_iload_n (i := 1) (jm_dc dc_141_0 1 rfl)) (
  jm_gc (pu_callV _ _ _) (sn_callV (jm_dc dc_141_0 2 rfl) lk_10_113) (
  jm_gc (pu_ifne _) (sn_ifne (jm_dc dc_141_0 3 rfl) (by decide)) (
  jm_gc (pu_ic _ _) (sn_iconst (jm_dc dc_141_0 4 rfl) (by decide)) (
  jm_gc (pu_iret) (sn_iret (jm_dc dc_141_0 5 rfl) rfl) (
  jm_gc (pu_aload _ _) (sn_aload_n (i := 0) (jm_dc dc_141_0 6 rfl)) (
  jm_gc (pu_getA _ _) (sn_getA (jm_dc dc_141_0 7 rfl) fl_10_44 rfl) (
  jm_gc (pu_iload _ _) (sn_iload_n (i := 1) (jm_dc dc_141_0 8 rfl)) (
  jm_gc (pu_callV _ _ _) (sn_callV (jm_dc dc_141_0 9 rfl) lk_10_278) (
  jm_gc (pu_ifne _) (sn_ifne (jm_dc dc_141_0 10 rfl) (by decide)) (
  jm_gc (pu_ic _ _) (sn_bipush (jm_dc dc_141_0 11 rfl) (by decide)) (
  jm_gc (pu_iret) (sn_iret (jm_dc dc_141_0 12 rfl) rfl) (
  jm_gc (pu_aload _ _) (sn_aload_n (i := 0) (jm_dc dc_141_0 13 rfl)) (
  jm_gc (pu_getA _ _) (sn_getA (jm_dc dc_141_0 14 rfl) fl_10_44 rfl) (
  jm_gc (pu_iload _ _) (sn_iload_n (i := 1) (jm_dc dc_141_0 15 rfl)) (
  jm_gc (pu_callV _ _ _) (sn_callV (jm_dc dc_141_0 16 rfl) lk_10_281) (
  jm_gc (pu_ic _ _) (sn_iconst (jm_dc dc_141_0 17 rfl) (by decide)) (
  jm_gc (pu_iret) (sn_iret (jm_dc dc_141_0 18 rfl) rfl) (
  jm_gn)))))))))))))))))))
theorem dc_142_0 : ([(0, .aload_n 0, 1), (1, .iload_n 1, 1), (2, .invokevirtual 113, 3), (5, .ifCond .ne 5, 3), (8, .iconst (-1), 1), (9, .ireturn, 1), (10, .iload_n 2, 1), (11, .iload_n 3, 1), (12, .iload 4, 2), (14, .invokestatic 157, 3), (17, .ifCond .ne 6, 3), (20, .bipush (-2), 2), (22, .ireturn, 1), (23, .aload_n 0, 1), (24, .getfield 44, 3), (27, .iload_n 1, 1), (28, .invokevirtual 284, 3), (31, .ifCond .eq 6, 3), (34, .bipush (-3), 2), (36, .ireturn, 1), (37, .aload_n 0, 1), (38, .getfield 44, 3), (41, .iload_n 1, 1), (42, .iload_n 2, 1), (43, .iload_n 3, 1)] : List (Nat × Instr × Nat)).all (fun e => decide (decode prog_1_method_21_code e.1 = .ok e.2)) = true := by decide +kernel
abbrev cl_142_0 : List (Nat × jm_O) := [(0, op_aload 0 1), (1, op_iload 1 1), (2, op_callV 10 160 2), (5, op_ifne 10), (8, op_ic (-1) 1), (9, op_iret), (10, op_iload 2 1), (11, op_iload 3 1), (12, op_iload 4 2), (14, op_callS 166 3), (17, op_ifne 23), (20, op_ic (-2) 2), (22, op_iret), (23, op_aload 0 1), (24, op_getA 10 4), (27, op_iload 1 1), (28, op_callV 9 101 2), (31, op_ifeq 37), (34, op_ic (-3) 2), (36, op_iret), (37, op_aload 0 1), (38, op_getA 10 4), (41, op_iload 1 1), (42, op_iload 2 1), (43, op_iload 3 1)]
set_option maxRecDepth 100000 in
theorem gl_142_0 : jm_gl "FrescoWall" prog_1_method_21_code 6 (Option.some Jvm.ClassFile.FieldType.int) false cl_142_0 :=
  jm_gc (pu_aload _ _) (sn_aload_n (i := 0) (jm_dc dc_142_0 0 rfl)) (
  jm_gc (pu_iload _ _) (sn_iload_n (i := 1) (jm_dc dc_142_0 1 rfl)) (
  jm_gc (pu_callV _ _ _) (sn_callV (jm_dc dc_142_0 2 rfl) lk_10_113) (
  jm_gc (pu_ifne _) (sn_ifne (jm_dc dc_142_0 3 rfl) (by decide)) (
  jm_gc (pu_ic _ _) (sn_iconst (jm_dc dc_142_0 4 rfl) (by decide)) (
  jm_gc (pu_iret) (sn_iret (jm_dc dc_142_0 5 rfl) rfl) (
  jm_gc (pu_iload _ _) (sn_iload_n (i := 2) (jm_dc dc_142_0 6 rfl)) (
  jm_gc (pu_iload _ _) (sn_iload_n (i := 3) (jm_dc dc_142_0 7 rfl)) (
  jm_gc (pu_iload _ _) (sn_iload (jm_dc dc_142_0 8 rfl)) (
  jm_gc (pu_callS _ _) (sn_callS (jm_dc dc_142_0 9 rfl) lk_10_157) (
  jm_gc (pu_ifne _) (sn_ifne (jm_dc dc_142_0 10 rfl) (by decide)) (
  jm_gc (pu_ic _ _) (sn_bipush (jm_dc dc_142_0 11 rfl) (by decide)) (
  jm_gc (pu_iret) (sn_iret (jm_dc dc_142_0 12 rfl) rfl) (
  jm_gc (pu_aload _ _) (sn_aload_n (i := 0) (jm_dc dc_142_0 13 rfl)) (
  jm_gc (pu_getA _ _) (sn_getA (jm_dc dc_142_0 14 rfl) fl_10_44 rfl) (
  jm_gc (pu_iload _ _) (sn_iload_n (i := 1) (jm_dc dc_142_0 15 rfl)) (
  jm_gc (pu_callV _ _ _) (sn_callV (jm_dc dc_142_0 16 rfl) lk_10_284) (
  jm_gc (pu_ifeq _) (sn_ifeq (jm_dc dc_142_0 17 rfl) (by decide)) (
  jm_gc (pu_ic _ _) (sn_bipush (jm_dc dc_142_0 18 rfl) (by decide)) (
  jm_gc (pu_iret) (sn_iret (jm_dc dc_142_0 19 rfl) rfl) (
  jm_gc (pu_aload _ _) (sn_aload_n (i := 0) (jm_dc dc_142_0 20 rfl)) (
  jm_gc (pu_getA _ _) (sn_getA (jm_dc dc_142_0 21 rfl) fl_10_44 rfl) (
  jm_gc (pu_iload _ _) (sn_iload_n (i := 1) (jm_dc dc_142_0 22 rfl)) (
  jm_gc (pu_iload _ _) (sn_iload_n (i := 2) (jm_dc dc_142_0 23 rfl)) (
  jm_gc (pu_iload _ _) (sn_iload_n (i := 3) (jm_dc dc_142_0 24 rfl)) (
  jm_gn)))))))))))))))))))))))))
theorem dc_142_1 : ([(44, .iload 4, 2), (46, .invokestatic 270, 3), (49, .invokevirtual 287, 3), (52, .istore 5, 2), (54, .iload 5, 2), (56, .ifCond .eq 11, 3), (59, .bipush (-10), 2), (61, .iload 5, 2), (63, .isub, 1), (64, .goto 15, 3), (67, .aload_n 0, 1), (68, .getfield 35, 3), (71, .getfield 225, 3), (74, .iload_n 1, 1), (75, .iaload, 1), (76, .invokestatic 234, 3), (79, .ireturn, 1)] : List (Nat × Instr × Nat)).all (fun e => decide (decode prog_1_method_21_code e.1 = .ok e.2)) = true := by decide +kernel
abbrev cl_142_1 : List (Nat × jm_O) := [(44, op_iload 4 2), (46, op_callS 305 3), (49, op_callV 9 116 3), (52, op_istore 5 2), (54, op_iload 5 2), (56, op_ifeq 67), (59, op_ic (-10) 2), (61, op_iload 5 2), (63, op_ibin (fun x y => x - y)), (64, op_goto 79), (67, op_aload 0 1), (68, op_getA 10 3), (71, op_getA 4 6), (74, op_iload 1 1), (75, op_iald 13), (76, op_callS 317 1), (79, op_iret)]
set_option maxRecDepth 100000 in
theorem gl_142_1 : jm_gl "FrescoWall" prog_1_method_21_code 6 (Option.some Jvm.ClassFile.FieldType.int) false cl_142_1 :=
  jm_gc (pu_iload _ _) (sn_iload (jm_dc dc_142_1 0 rfl)) (
  jm_gc (pu_callS _ _) (sn_callS (jm_dc dc_142_1 1 rfl) lk_10_270) (
  jm_gc (pu_callV _ _ _) (sn_callV (jm_dc dc_142_1 2 rfl) lk_10_287) (
  jm_gc (pu_istore _ _) (sn_istore (jm_dc dc_142_1 3 rfl)) (
  jm_gc (pu_iload _ _) (sn_iload (jm_dc dc_142_1 4 rfl)) (
  jm_gc (pu_ifeq _) (sn_ifeq (jm_dc dc_142_1 5 rfl) (by decide)) (
  jm_gc (pu_ic _ _) (sn_bipush (jm_dc dc_142_1 6 rfl) (by decide)) (
  jm_gc (pu_iload _ _) (sn_iload (jm_dc dc_142_1 7 rfl)) (
  jm_gc (pu_ibin _) (sn_isub (jm_dc dc_142_1 8 rfl)) (
  jm_gc (pu_goto _) (sn_goto (jm_dc dc_142_1 9 rfl) (by decide)) (
  jm_gc (pu_aload _ _) (sn_aload_n (i := 0) (jm_dc dc_142_1 10 rfl)) (
  jm_gc (pu_getA _ _) (sn_getA (jm_dc dc_142_1 11 rfl) fl_10_35 rfl) (
  jm_gc (pu_getA _ _) (sn_getA (jm_dc dc_142_1 12 rfl) fl_10_225 rfl) (
  jm_gc (pu_iload _ _) (sn_iload_n (i := 1) (jm_dc dc_142_1 13 rfl)) (
  jm_gc (pu_iald _) (sn_iald (jm_dc dc_142_1 14 rfl)) (
  jm_gc (pu_callS _ _) (sn_callS (jm_dc dc_142_1 15 rfl) lk_10_234) (
  jm_gc (pu_iret) (sn_iret (jm_dc dc_142_1 16 rfl) rfl) (
  jm_gn)))))))))))))))))
theorem dc_143_0 : ([(0, .aload_n 0, 1), (1, .iload_n 1, 1), (2, .invokevirtual 113, 3), (5, .ifCond .ne 5, 3), (8, .iconst (-1), 1), (9, .ireturn, 1), (10, .aload_n 0, 1), (11, .getfield 44, 3), (14, .iload_n 1, 1), (15, .invokevirtual 290, 3), (18, .ifCond .eq 14, 3), (21, .aload_n 0, 1), (22, .getfield 44, 3), (25, .iload_n 1, 1), (26, .invokevirtual 284, 3), (29, .ifCond .eq 6, 3), (32, .bipush (-3), 2), (34, .ireturn, 1), (35, .aload_n 0, 1), (36, .getfield 44, 3), (39, .dup, 1), (40, .getfield 293, 3), (43, .aload_n 0, 1), (44, .getfield 35, 3), (47, .getfield 225, 3)] : List (Nat × Instr × Nat)).all (fun e => decide (decode prog_1_method_22_code e.1 = .ok e.2)) = true := by decide +kernel
abbrev cl_143_0 : List (Nat × jm_O) := [(0, op_aload 0 1), (1, op_iload 1 1), (2, op_callV 10 160 2), (5, op_ifne 10), (8, op_ic (-1) 1), (9, op_iret), (10, op_aload 0 1), (11, op_getA 10 4), (14, op_iload 1 1), (15, op_callV 9 102 2), (18, op_ifeq 32), (21, op_aload 0 1), (22, op_getA 10 4), (25, op_iload 1 1), (26, op_callV 9 101 2), (29, op_ifeq 35), (32, op_ic (-3) 2), (34, op_iret), (35, op_aload 0 1), (36, op_getA 10 4), (39, op_dup), (40, op_getI 9 4), (43, op_aload 0 1), (44, op_getA 10 3), (47, op_getA 4 6)]
set_option maxRecDepth 100000 in
theorem gl_143_0 : jm_gl "FrescoWall" prog_1_method_22_code 2 (Option.some Jvm.ClassFile.FieldType.int) false cl_143_0 :=
  jm_gc (pu_aload _ _) (sn_aload_n (i := 0) (jm_dc dc_143_0 0 rfl)) (
  jm_gc (pu_iload _ _) (sn_iload_n (i := 1) (jm_dc dc_143_0 1 rfl)) (
  jm_gc (pu_callV _ _ _) (sn_callV (jm_dc dc_143_0 2 rfl) lk_10_113) (
  jm_gc (pu_ifne _) (sn_ifne (jm_dc dc_143_0 3 rfl) (by decide)) (
  jm_gc (pu_ic _ _) (sn_iconst (jm_dc dc_143_0 4 rfl) (by decide)) (
  jm_gc (pu_iret) (sn_iret (jm_dc dc_143_0 5 rfl) rfl) (
  jm_gc (pu_aload _ _) (sn_aload_n (i := 0) (jm_dc dc_143_0 6 rfl)) (
  jm_gc (pu_getA _ _) (sn_getA (jm_dc dc_143_0 7 rfl) fl_10_44 rfl) (
  jm_gc (pu_iload _ _) (sn_iload_n (i := 1) (jm_dc dc_143_0 8 rfl)) (
  jm_gc (pu_callV _ _ _) (sn_callV (jm_dc dc_143_0 9 rfl) lk_10_290) (
  jm_gc (pu_ifeq _) (sn_ifeq (jm_dc dc_143_0 10 rfl) (by decide)) (
  jm_gc (pu_aload _ _) (sn_aload_n (i := 0) (jm_dc dc_143_0 11 rfl)) (
  jm_gc (pu_getA _ _) (sn_getA (jm_dc dc_143_0 12 rfl) fl_10_44 rfl) (
  jm_gc (pu_iload _ _) (sn_iload_n (i := 1) (jm_dc dc_143_0 13 rfl)) (
  jm_gc (pu_callV _ _ _) (sn_callV (jm_dc dc_143_0 14 rfl) lk_10_284) (
  jm_gc (pu_ifeq _) (sn_ifeq (jm_dc dc_143_0 15 rfl) (by decide)) (
  jm_gc (pu_ic _ _) (sn_bipush (jm_dc dc_143_0 16 rfl) (by decide)) (
  jm_gc (pu_iret) (sn_iret (jm_dc dc_143_0 17 rfl) rfl) (
  jm_gc (pu_aload _ _) (sn_aload_n (i := 0) (jm_dc dc_143_0 18 rfl)) (
  jm_gc (pu_getA _ _) (sn_getA (jm_dc dc_143_0 19 rfl) fl_10_44 rfl) (
  jm_gc (pu_dup) (sn_dup (jm_dc dc_143_0 20 rfl)) (
  jm_gc (pu_getI _ _) (sn_getI (jm_dc dc_143_0 21 rfl) fl_10_293 (Or.inl rfl)) (
  jm_gc (pu_aload _ _) (sn_aload_n (i := 0) (jm_dc dc_143_0 22 rfl)) (
  jm_gc (pu_getA _ _) (sn_getA (jm_dc dc_143_0 23 rfl) fl_10_35 rfl) (
  jm_gc (pu_getA _ _) (sn_getA (jm_dc dc_143_0 24 rfl) fl_10_225 rfl) (
  jm_gn)))))))))))))))))))))))))
theorem dc_143_1 : ([(50, .iload_n 1, 1), (51, .iaload, 1), (52, .iconst (-1), 1), (53, .ixor, 1), (54, .iand, 1), (55, .putfield 293, 3), (58, .aload_n 0, 1), (59, .getfield 35, 3), (62, .getfield 225, 3), (65, .iload_n 1, 1), (66, .iaload, 1), (67, .invokestatic 234, 3), (70, .ireturn, 1)] : List (Nat × Instr × Nat)).all (fun e => decide (decode prog_1_method_22_code e.1 = .ok e.2)) = true := by decide +kernel
abbrev cl_143_1 : List (Nat × jm_O) := [(50, op_iload 1 1), (51, op_iald 13), (52, op_ic (-1) 1), (53, op_ibin (fun x y => x ^^^ y)), (54, op_ibin (fun x y => x &&& y)), (55, op_putI 9 4), (58, op_aload 0 1), (59, op_getA 10 3), (62, op_getA 4 6), (65, op_iload 1 1), (66, op_iald 13), (67, op_callS 317 1), (70, op_iret)]
set_option maxRecDepth 100000 in
theorem gl_143_1 : jm_gl "FrescoWall" prog_1_method_22_code 2 (Option.some Jvm.ClassFile.FieldType.int) false cl_143_1 :=
  jm_gc (pu_iload _ _) (sn_iload_n (i := 1) (jm_dc dc_143_1 0 rfl)) (
  jm_gc (pu_iald _) (sn_iald (jm_dc dc_143_1 1 rfl)) (
  jm_gc (pu_ic _ _) (sn_iconst (jm_dc dc_143_1 2 rfl) (by decide)) (
  jm_gc (pu_ibin _) (sn_ixor (jm_dc dc_143_1 3 rfl)) (
  jm_gc (pu_ibin _) (sn_iand (jm_dc dc_143_1 4 rfl)) (
  jm_gc (pu_putI _ _) (sn_putI (jm_dc dc_143_1 5 rfl) flw_10_293 rfl) (
  jm_gc (pu_aload _ _) (sn_aload_n (i := 0) (jm_dc dc_143_1 6 rfl)) (
  jm_gc (pu_getA _ _) (sn_getA (jm_dc dc_143_1 7 rfl) fl_10_35 rfl) (
  jm_gc (pu_getA _ _) (sn_getA (jm_dc dc_143_1 8 rfl) fl_10_225 rfl) (
  jm_gc (pu_iload _ _) (sn_iload_n (i := 1) (jm_dc dc_143_1 9 rfl)) (
  jm_gc (pu_iald _) (sn_iald (jm_dc dc_143_1 10 rfl)) (
  jm_gc (pu_callS _ _) (sn_callS (jm_dc dc_143_1 11 rfl) lk_10_234) (
  jm_gc (pu_iret) (sn_iret (jm_dc dc_143_1 12 rfl) rfl) (
  jm_gn)))))))))))))
theorem dc_144_0 : ([(0, .aload_n 0, 1), (1, .iload_n 1, 1), (2, .invokevirtual 113, 3), (5, .ifCond .eq 14, 3), (8, .aload_n 0, 1), (9, .getfield 44, 3), (12, .iload_n 1, 1), (13, .invokevirtual 290, 3), (16, .ifCond .ne 6, 3), (19, .ldc 117, 2), (21, .ireturn, 1), (22, .iload_n 2, 1), (23, .iconst 3, 1), (24, .if_icmp .eq 17, 3), (27, .aload_n 0, 1), (28, .getfield 44, 3), (31, .getfield 296, 3), (34, .iload_n 1, 1), (35, .laload, 1), (36, .iload_n 2, 1), (37, .invokestatic 192, 3), (40, .ireturn, 1), (41, .aload_n 0, 1), (42, .getfield 44, 3), (45, .iload_n 1, 1)] : List (Nat × Instr × Nat)).all (fun e => decide (decode prog_1_method_23_code e.1 = .ok e.2)) = true := by decide +kernel
abbrev cl_144_0 : List (Nat × jm_O) := [(0, op_aload 0 1), (1, op_iload 1 1), (2, op_callV 10 160 2), (5, op_ifeq 19), (8, op_aload 0 1), (9, op_getA 10 4), (12, op_iload 1 1), (13, op_callV 9 102 2), (16, op_ifne 22), (19, op_ic (-100000) 2), (21, op_iret), (22, op_iload 2 1), (23, op_ic 3 1), (24, op_ceq 41), (27, op_aload 0 1), (28, op_getA 10 4), (31, op_getA 9 2), (34, op_iload 1 1), (35, op_lald), (36, op_iload 2 1), (37, op_callS 169 2), (40, op_iret), (41, op_aload 0 1), (42, op_getA 10 4), (45, op_iload 1 1)]
set_option maxRecDepth 100000 in
theorem gl_144_0 : jm_gl "FrescoWall" prog_1_method_23_code 3 (Option.some Jvm.ClassFile.FieldType.int) false cl_144_0 :=
  jm_gc (pu_aload _ _) (sn_aload_n (i := 0) (jm_dc dc_144_0 0 rfl)) (
  jm_gc (pu_iload _ _) (sn_iload_n (i := 1) (jm_dc dc_144_0 1 rfl)) (
  jm_gc (pu_callV _ _ _) (sn_callV (jm_dc dc_144_0 2 rfl) lk_10_113) (
  jm_gc (pu_ifeq _) (sn_ifeq (jm_dc dc_144_0 3 rfl) (by decide)) (
  jm_gc (pu_aload _ _) (sn_aload_n (i := 0) (jm_dc dc_144_0 4 rfl)) (
  jm_gc (pu_getA _ _) (sn_getA (jm_dc dc_144_0 5 rfl) fl_10_44 rfl) (
  jm_gc (pu_iload _ _) (sn_iload_n (i := 1) (jm_dc dc_144_0 6 rfl)) (
  jm_gc (pu_callV _ _ _) (sn_callV (jm_dc dc_144_0 7 rfl) lk_10_290) (
  jm_gc (pu_ifne _) (sn_ifne (jm_dc dc_144_0 8 rfl) (by decide)) (
  jm_gc (pu_ic _ _) (sn_ldc (jm_dc dc_144_0 9 rfl) (kc_tb 622 (by decide +kernel))) (
  jm_gc (pu_iret) (sn_iret (jm_dc dc_144_0 10 rfl) rfl) (
  jm_gc (pu_iload _ _) (sn_iload_n (i := 2) (jm_dc dc_144_0 11 rfl)) (
  jm_gc (pu_ic _ _) (sn_iconst (jm_dc dc_144_0 12 rfl) (by decide)) (
  jm_gc (pu_ceq _) (sn_ceq (jm_dc dc_144_0 13 rfl) (by decide)) (
  jm_gc (pu_aload _ _) (sn_aload_n (i := 0) (jm_dc dc_144_0 14 rfl)) (
  jm_gc (pu_getA _ _) (sn_getA (jm_dc dc_144_0 15 rfl) fl_10_44 rfl) (
  jm_gc (pu_getA _ _) (sn_getA (jm_dc dc_144_0 16 rfl) fl_10_296 rfl) (
  jm_gc (pu_iload _ _) (sn_iload_n (i := 1) (jm_dc dc_144_0 17 rfl)) (
  jm_gc (pu_lald) (sn_lald (jm_dc dc_144_0 18 rfl)) (
  jm_gc (pu_iload _ _) (sn_iload_n (i := 2) (jm_dc dc_144_0 19 rfl)) (
  jm_gc (pu_callS _ _) (sn_callS (jm_dc dc_144_0 20 rfl) lk_10_192) (
  jm_gc (pu_iret) (sn_iret (jm_dc dc_144_0 21 rfl) rfl) (
  jm_gc (pu_aload _ _) (sn_aload_n (i := 0) (jm_dc dc_144_0 22 rfl)) (
  jm_gc (pu_getA _ _) (sn_getA (jm_dc dc_144_0 23 rfl) fl_10_44 rfl) (
  jm_gc (pu_iload _ _) (sn_iload_n (i := 1) (jm_dc dc_144_0 24 rfl)) (
  jm_gn)))))))))))))))))))))))))
theorem dc_144_1 : ([(46, .invokevirtual 278, 3), (49, .ifCond .eq 5, 3), (52, .iconst 2, 1), (53, .ireturn, 1), (54, .aload_n 0, 1), (55, .getfield 44, 3), (58, .iload_n 1, 1), (59, .invokevirtual 284, 3), (62, .ifCond .eq 7, 3), (65, .iconst 1, 1), (66, .goto 4, 3), (69, .iconst 0, 1), (70, .ireturn, 1)] : List (Nat × Instr × Nat)).all (fun e => decide (decode prog_1_method_23_code e.1 = .ok e.2)) = true := by decide +kernel
abbrev cl_144_1 : List (Nat × jm_O) := [(46, op_callV 9 100 2), (49, op_ifeq 54), (52, op_ic 2 1), (53, op_iret), (54, op_aload 0 1), (55, op_getA 10 4), (58, op_iload 1 1), (59, op_callV 9 101 2), (62, op_ifeq 69), (65, op_ic 1 1), (66, op_goto 70), (69, op_ic 0 1), (70, op_iret)]
set_option maxRecDepth 100000 in
theorem gl_144_1 : jm_gl "FrescoWall" prog_1_method_23_code 3 (Option.some Jvm.ClassFile.FieldType.int) false cl_144_1 :=
  jm_gc (pu_callV _ _ _) (sn_callV (jm_dc dc_144_1 0 rfl) lk_10_278) (
  jm_gc (pu_ifeq _) (sn_ifeq (jm_dc dc_144_1 1 rfl) (by decide)) (
  jm_gc (pu_ic _ _) (sn_iconst (jm_dc dc_144_1 2 rfl) (by decide)) (
  jm_gc (pu_iret) (sn_iret (jm_dc dc_144_1 3 rfl) rfl) (
  jm_gc (pu_aload _ _) (sn_aload_n (i := 0) (jm_dc dc_144_1 4 rfl)) (
  jm_gc (pu_getA _ _) (sn_getA (jm_dc dc_144_1 5 rfl) fl_10_44 rfl) (
  jm_gc (pu_iload _ _) (sn_iload_n (i := 1) (jm_dc dc_144_1 6 rfl)) (
  jm_gc (pu_callV _ _ _) (sn_callV (jm_dc dc_144_1 7 rfl) lk_10_284) (
  jm_gc (pu_ifeq _) (sn_ifeq (jm_dc dc_144_1 8 rfl) (by decide)) (
  jm_gc (pu_ic _ _) (sn_iconst (jm_dc dc_144_1 9 rfl) (by decide)) (
  jm_gc (pu_goto _) (sn_goto (jm_dc dc_144_1 10 rfl) (by decide)) (
  jm_gc (pu_ic _ _) (sn_iconst (jm_dc dc_144_1 11 rfl) (by decide)) (
  jm_gc (pu_iret) (sn_iret (jm_dc dc_144_1 12 rfl) rfl) (
  jm_gn)))))))))))))
theorem dc_145_0 : ([(0, .aload_n 0, 1), (1, .getfield 44, 3), (4, .iload_n 1, 1), (5, .iload_n 2, 1), (6, .invokevirtual 300, 3), (9, .ireturn, 1)] : List (Nat × Instr × Nat)).all (fun e => decide (decode prog_1_method_24_code e.1 = .ok e.2)) = true := by decide +kernel
abbrev cl_145_0 : List (Nat × jm_O) := [(0, op_aload 0 1), (1, op_getA 10 4), (4, op_iload 1 1), (5, op_iload 2 1), (6, op_callV 9 104 3), (9, op_iret)]
set_option maxRecDepth 100000 in
theorem gl_145_0 : jm_gl "FrescoWall" prog_1_method_24_code 3 (Option.some Jvm.ClassFile.FieldType.int) false cl_145_0 :=
  jm_gc (pu_aload _ _) (sn_aload_n (i := 0) (jm_dc dc_145_0 0 rfl)) (
  jm_gc (pu_getA _ _) (sn_getA (jm_dc dc_145_0 1 rfl) fl_10_44 rfl) (
  jm_gc (pu_iload _ _) (sn_iload_n (i := 1) (jm_dc dc_145_0 2 rfl)) (
  jm_gc (pu_iload _ _) (sn_iload_n (i := 2) (jm_dc dc_145_0 3 rfl)) (
  jm_gc (pu_callV _ _ _) (sn_callV (jm_dc dc_145_0 4 rfl) lk_10_300) (
  jm_gc (pu_iret) (sn_iret (jm_dc dc_145_0 5 rfl) rfl) (
  jm_gn))))))
theorem dc_146_0 : ([(0, .aload_n 0, 1), (1, .iload_n 1, 1), (2, .invokevirtual 113, 3), (5, .ifCond .ne 5, 3), (8, .iconst (-1), 1), (9, .ireturn, 1), (10, .aload_n 0, 1), (11, .getfield 44, 3), (14, .iload_n 1, 1), (15, .invokevirtual 303, 3), (18, .istore_n 2, 1), (19, .iload_n 2, 1), (20, .ifCond .ge 8, 3), (23, .bipush (-3), 2), (25, .goto 4, 3), (28, .iload_n 2, 1), (29, .ireturn, 1)] : List (Nat × Instr × Nat)).all (fun e => decide (decode prog_1_method_25_code e.1 = .ok e.2)) = true := by decide +kernel
abbrev cl_146_0 : List (Nat × jm_O) := [(0, op_aload 0 1), (1, op_iload 1 1), (2, op_callV 10 160 2), (5, op_ifne 10), (8, op_ic (-1) 1), (9, op_iret), (10, op_aload 0 1), (11, op_getA 10 4), (14, op_iload 1 1), (15, op_callV 9 121 2), (18, op_istore 2 1), (19, op_iload 2 1), (20, op_ifge 28), (23, op_ic (-3) 2), (25, op_goto 29), (28, op_iload 2 1), (29, op_iret)]
set_option maxRecDepth 100000 in
theorem gl_146_0 : jm_gl "FrescoWall" prog_1_method_25_code 3 (Option.some Jvm.ClassFile.FieldType.int) false cl_146_0 :=
  jm_gc (pu_aload _ _) (sn_aload_n (i := 0) (jm_dc dc_146_0 0 rfl)) (
  jm_gc (pu_iload _ _) (sn_iload_n (i := 1) (jm_dc dc_146_0 1 rfl)) (
  jm_gc (pu_callV _ _ _) (sn_callV (jm_dc dc_146_0 2 rfl) lk_10_113) (
  jm_gc (pu_ifne _) (sn_ifne (jm_dc dc_146_0 3 rfl) (by decide)) (
  jm_gc (pu_ic _ _) (sn_iconst (jm_dc dc_146_0 4 rfl) (by decide)) (
  jm_gc (pu_iret) (sn_iret (jm_dc dc_146_0 5 rfl) rfl) (
  jm_gc (pu_aload _ _) (sn_aload_n (i := 0) (jm_dc dc_146_0 6 rfl)) (
  jm_gc (pu_getA _ _) (sn_getA (jm_dc dc_146_0 7 rfl) fl_10_44 rfl) (
  jm_gc (pu_iload _ _) (sn_iload_n (i := 1) (jm_dc dc_146_0 8 rfl)) (
  jm_gc (pu_callV _ _ _) (sn_callV (jm_dc dc_146_0 9 rfl) lk_10_303) (
  jm_gc (pu_istore _ _) (sn_istore_n (i := 2) (jm_dc dc_146_0 10 rfl)) (
  jm_gc (pu_iload _ _) (sn_iload_n (i := 2) (jm_dc dc_146_0 11 rfl)) (
  jm_gc (pu_ifge _) (sn_ifge (jm_dc dc_146_0 12 rfl) (by decide)) (
  jm_gc (pu_ic _ _) (sn_bipush (jm_dc dc_146_0 13 rfl) (by decide)) (
  jm_gc (pu_goto _) (sn_goto (jm_dc dc_146_0 14 rfl) (by decide)) (
  jm_gc (pu_iload _ _) (sn_iload_n (i := 2) (jm_dc dc_146_0 15 rfl)) (
  jm_gc (pu_iret) (sn_iret (jm_dc dc_146_0 16 rfl) rfl) (
  jm_gn)))))))))))))))))
theorem dc_147_0 : ([(0, .aload_n 0, 1), (1, .iload_n 1, 1), (2, .invokevirtual 113, 3), (5, .ifCond .eq 19, 3), (8, .iload_n 2, 1), (9, .ifCond .lt 15, 3), (12, .iload_n 2, 1), (13, .aload_n 0, 1), (14, .getfield 44, 3), (17, .iload_n 1, 1), (18, .invokevirtual 303, 3), (21, .if_icmp .lt 5, 3), (24, .iconst (-1), 1), (25, .ireturn, 1), (26, .aload_n 0, 1), (27, .getfield 35, 3), (30, .getfield 306, 3), (33, .iload_n 2, 1), (34, .iaload, 1), (35, .ireturn, 1)] : List (Nat × Instr × Nat)).all (fun e => decide (decode prog_1_method_26_code e.1 = .ok e.2)) = true := by decide +kernel
abbrev cl_147_0 : List (Nat × jm_O) := [(0, op_aload 0 1), (1, op_iload 1 1), (2, op_callV 10 160 2), (5, op_ifeq 24), (8, op_iload 2 1), (9, op_iflt 24), (12, op_iload 2 1), (13, op_aload 0 1), (14, op_getA 10 4), (17, op_iload 1 1), (18, op_callV 9 121 2), (21, op_clt 26), (24, op_ic (-1) 1), (25, op_iret), (26, op_aload 0 1), (27, op_getA 10 3), (30, op_getA 4 8), (33, op_iload 2 1), (34, op_iald 13), (35, op_iret)]
set_option maxRecDepth 100000 in
theorem gl_147_0 : jm_gl "FrescoWall" prog_1_method_26_code 3 (Option.some Jvm.ClassFile.FieldType.int) false cl_147_0 :=
  jm_gc (pu_aload _ _) (sn_aload_n (i := 0) (jm_dc dc_147_0 0 rfl)) (
  jm_gc (pu_iload _ _) (sn_iload_n (i := 1) (jm_dc dc_147_0 1 rfl)) (
  jm_gc (pu_callV _ _ _) (sn_callV (jm_dc dc_147_0 2 rfl) lk_10_113) (
  jm_gc (pu_ifeq _) (sn_ifeq (jm_dc dc_147_0 3 rfl) (by decide)) (
  jm_gc (pu_iload _ _) (sn_iload_n (i := 2) (jm_dc dc_147_0 4 rfl)) (
  jm_gc (pu_iflt _) (sn_iflt (jm_dc dc_147_0 5 rfl) (by decide)) (
  jm_gc (pu_iload _ _) (sn_iload_n (i := 2) (jm_dc dc_147_0 6 rfl)) (
  jm_gc (pu_aload _ _) (sn_aload_n (i := 0) (jm_dc dc_147_0 7 rfl)) (
  jm_gc (pu_getA _ _) (sn_getA (jm_dc dc_147_0 8 rfl) fl_10_44 rfl) (
  jm_gc (pu_iload _ _) (sn_iload_n (i := 1) (jm_dc dc_147_0 9 rfl)) (
  jm_gc (pu_callV _ _ _) (sn_callV (jm_dc dc_147_0 10 rfl) lk_10_303) (
  jm_gc (pu_clt _) (sn_clt (jm_dc dc_147_0 11 rfl) (by decide)) (
  jm_gc (pu_ic _ _) (sn_iconst (jm_dc dc_147_0 12 rfl) (by decide)) (
  jm_gc (pu_iret) (sn_iret (jm_dc dc_147_0 13 rfl) rfl) (
  jm_gc (pu_aload _ _) (sn_aload_n (i := 0) (jm_dc dc_147_0 14 rfl)) (
  jm_gc (pu_getA _ _) (sn_getA (jm_dc dc_147_0 15 rfl) fl_10_35 rfl) (
  jm_gc (pu_getA _ _) (sn_getA (jm_dc dc_147_0 16 rfl) fl_10_306 rfl) (
  jm_gc (pu_iload _ _) (sn_iload_n (i := 2) (jm_dc dc_147_0 17 rfl)) (
  jm_gc (pu_iald _) (sn_iald (jm_dc dc_147_0 18 rfl)) (
  jm_gc (pu_iret) (sn_iret (jm_dc dc_147_0 19 rfl) rfl) (
  jm_gn))))))))))))))))))))
theorem dc_148_0 : ([(0, .iload_n 1, 1), (1, .invokestatic 309, 3), (4, .ifCond .eq 19, 3), (7, .iload_n 2, 1), (8, .invokestatic 309, 3), (11, .ifCond .eq 12, 3), (14, .iload_n 3, 1), (15, .ifCond .lt 8, 3), (18, .iload_n 3, 1), (19, .iconst 3, 1), (20, .if_icmp .le 6, 3), (23, .bipush (-2), 2), (25, .ireturn, 1), (26, .aload_n 0, 1), (27, .getfield 51, 3), (30, .aload_n 0, 1), (31, .getfield 10, 3), (34, .invokevirtual 312, 3), (37, .istore 4, 2), (39, .iload 4, 2), (41, .ifCond .ge 17, 3), (44, .aload_n 0, 1), (45, .getfield 51, 3), (48, .aload_n 0, 1), (49, .getfield 10, 3)] : List (Nat × Instr × Nat)).all (fun e => decide (decode prog_1_method_27_code e.1 = .ok e.2)) = true := by decide +kernel
abbrev cl_148_0 : List (Nat × jm_O) := [(0, op_iload 1 1), (1, op_callS 165 1), (4, op_ifeq 23), (7, op_iload 2 1), (8, op_callS 165 1), (11, op_ifeq 23), (14, op_iload 3 1), (15, op_iflt 23), (18, op_iload 3 1), (19, op_ic 3 1), (20, op_cle 26), (23, op_ic (-2) 2), (25, op_iret), (26, op_aload 0 1), (27, op_getA 10 5), (30, op_aload 0 1), (31, op_getA 10 0), (34, op_callV 5 59 2), (37, op_istore 4 2), (39, op_iload 4 2), (41, op_ifge 58), (44, op_aload 0 1), (45, op_getA 10 5), (48, op_aload 0 1), (49, op_getA 10 0)]
set_option maxRecDepth 100000 in
theorem gl_148_0 : jm_gl "FrescoWall" prog_1_method_27_code 5 (Option.some Jvm.ClassFile.FieldType.int) false cl_148_0 :=
  jm_gc (pu_iload _ _) (sn_iload_n (i := 1) (jm_dc dc_148_0 0 rfl)) (
  jm_gc (pu_callS _ _) (sn_callS (jm_dc dc_148_0 1 rfl) lk_10_309) (
  jm_gc (pu_ifeq _) (sn_ifeq (jm_dc dc_148_0 2 rfl) (by decide)) (
  jm_gc (pu_iload _ _) (sn_iload_n (i := 2) (jm_dc dc_148_0 3 rfl)) (
  jm_gc (pu_callS _ _) (sn_callS (jm_dc dc_148_0 4 rfl) lk_10_309) (
  jm_gc (pu_ifeq _) (sn_ifeq (jm_dc dc_148_0 5 rfl) (by decide)) (
  jm_gc (pu_iload _ _) (sn_iload_n (i := 3) (jm_dc dc_148_0 6 rfl)) (
  jm_gc (pu_iflt _) (sn_iflt (jm_dc dc_148_0 7 rfl) (by decide)) (
  jm_gc (pu_iload _ _) (sn_iload_n (i := 3) (jm_dc dc_148_0 8 rfl)) (
  jm_gc (pu_ic _ _) (sn_iconst (jm_dc dc_148_0 9 rfl) (by decide)) (
  jm_gc (pu_cle _) (sn_cle (jm_dc dc_148_0 10 rfl) (by decide)) (
  jm_gc (pu_ic _ _) (sn_bipush (jm_dc dc_148_0 11 rfl) (by decide)) (
  jm_gc (pu_iret) (sn_iret (jm_dc dc_148_0 12 rfl) rfl) (
  jm_gc (pu_aload _ _) (sn_aload_n (i := 0) (jm_dc dc_148_0 13 rfl)) (
  jm_gc (pu_getA _ _) (sn_getA (jm_dc dc_148_0 14 rfl) fl_10_51 rfl) (
  jm_gc (pu_aload _ _) (sn_aload_n (i := 0) (jm_dc dc_148_0 15 rfl)) (
  jm_gc (pu_getA _ _) (sn_getA (jm_dc dc_148_0 16 rfl) fl_10_10 rfl) (
  jm_gc (pu_callV _ _ _) (sn_callV (jm_dc dc_148_0 17 rfl) lk_10_312) (
  jm_gc (pu_istore _ _) (sn_istore (jm_dc dc_148_0 18 rfl)) (
  jm_gc (pu_iload _ _) (sn_iload (jm_dc dc_148_0 19 rfl)) (
  jm_gc (pu_ifge _) (sn_ifge (jm_dc dc_148_0 20 rfl) (by decide)) (
  jm_gc (pu_aload _ _) (sn_aload_n (i := 0) (jm_dc dc_148_0 21 rfl)) (
  jm_gc (pu_getA _ _) (sn_getA (jm_dc dc_148_0 22 rfl) fl_10_51 rfl) (
  jm_gc (pu_aload _ _) (sn_aload_n (i := 0) (jm_dc dc_148_0 23 rfl)) (
  jm_gc (pu_getA _ _) (sn_getA (jm_dc dc_148_0 24 rfl) fl_10_10 rfl) (
  jm_gn)))))))))))))))))))))))))
theorem dc_148_1 : ([(52, .iload_n 1, 1), (53, .iload_n 2, 1), (54, .iload_n 3, 1), (55, .invokevirtual 316, 3), (58, .aload_n 0, 1), (59, .getfield 10, 3), (62, .iconst 0, 1), (63, .putfield 80, 3), (66, .iload 4, 2), (68, .ifCond .ge 13, 3), (71, .aload_n 0, 1), (72, .getfield 51, 3), (75, .invokevirtual 320, 3), (78, .goto 8, 3), (81, .bipush (-10), 2), (83, .iload 4, 2), (85, .isub, 1), (86, .ireturn, 1)] : List (Nat × Instr × Nat)).all (fun e => decide (decode prog_1_method_27_code e.1 = .ok e.2)) = true := by decide +kernel
abbrev cl_148_1 : List (Nat × jm_O) := [(52, op_iload 1 1), (53, op_iload 2 1), (54, op_iload 3 1), (55, op_callV 5 61 5), (58, op_aload 0 1), (59, op_getA 10 0), (62, op_ic 0 1), (63, op_putI 8 0), (66, op_iload 4 2), (68, op_ifge 81), (71, op_aload 0 1), (72, op_getA 10 5), (75, op_callV 5 58 1), (78, op_goto 86), (81, op_ic (-10) 2), (83, op_iload 4 2), (85, op_ibin (fun x y => x - y)), (86, op_iret)]
set_option maxRecDepth 100000 in
theorem gl_148_1 : jm_gl "FrescoWall" prog_1_method_27_code 5 (Option.some Jvm.ClassFile.FieldType.int) false cl_148_1 :=
  jm_gc (pu_iload _ _) (sn_iload_n (i := 1) (jm_dc dc_148_1 0 rfl)) (
  jm_gc (pu_iload _ _) (sn_iload_n (i := 2) (jm_dc dc_148_1 1 rfl)) (
  jm_gc (pu_iload _ _) (sn_iload_n (i := 3) (jm_dc dc_148_1 2 rfl)) (
  jm_gc (pu_callV _ _ _) (sn_callV (jm_dc dc_148_1 3 rfl) lk_10_316) (
  jm_gc (pu_aload _ _) (sn_aload_n (i := 0) (jm_dc dc_148_1 4 rfl)) (
  jm_gc (pu_getA _ _) (sn_getA (jm_dc dc_148_1 5 rfl) fl_10_10 rfl) (
  jm_gc (pu_ic _ _) (sn_iconst (jm_dc dc_148_1 6 rfl) (by decide)) (
  jm_gc (pu_putI _ _) (sn_putI (jm_dc dc_148_1 7 rfl) flw_10_80 rfl) (
  jm_gc (pu_iload _ _) (sn_iload (jm_dc dc_148_1 8 rfl)) (
  jm_gc (pu_ifge _) (sn_ifge (jm_dc dc_148_1 9 rfl) (by decide)) (
  jm_gc (pu_aload _ _) (sn_aload_n (i := 0) (jm_dc dc_148_1 10 rfl)) (
  jm_gc (pu_getA _ _) (sn_getA (jm_dc dc_148_1 11 rfl) fl_10_51 rfl) (
  jm_gc (pu_callV _ _ _) (sn_callV (jm_dc dc_148_1 12 rfl) lk_10_320) (
  jm_gc (pu_goto _) (sn_goto (jm_dc dc_148_1 13 rfl) (by decide)) (
  jm_gc (pu_ic _ _) (sn_bipush (jm_dc dc_148_1 14 rfl) (by decide)) (
  jm_gc (pu_iload _ _) (sn_iload (jm_dc dc_148_1 15 rfl)) (
  jm_gc (pu_ibin _) (sn_isub (jm_dc dc_148_1 16 rfl)) (
  jm_gc (pu_iret) (sn_iret (jm_dc dc_148_1 17 rfl) rfl) (
  jm_gn))))))))))))))))))
theorem dc_149_0 : ([(0, .aload_n 0, 1), (1, .iload_n 1, 1), (2, .invokevirtual 113, 3), (5, .ifCond .ne 5, 3), (8, .iconst (-1), 1), (9, .ireturn, 1), (10, .iload_n 2, 1), (11, .iload_n 3, 1), (12, .iload 4, 2), (14, .invokestatic 157, 3), (17, .ifCond .ne 6, 3), (20, .bipush (-2), 2), (22, .ireturn, 1), (23, .aload_n 0, 1), (24, .getfield 51, 3), (27, .invokevirtual 323, 3), (30, .ifCond .eq 26, 3), (33, .aload_n 0, 1), (34, .getfield 51, 3), (37, .aload_n 0, 1), (38, .getfield 28, 3), (41, .getfield 118, 3), (44, .iload_n 1, 1), (45, .aaload, 1), (46, .iload_n 2, 1)] : List (Nat × Instr × Nat)).all (fun e => decide (decode prog_1_method_28_code e.1 = .ok e.2)) = true := by decide +kernel
abbrev cl_149_0 : List (Nat × jm_O) := [(0, op_aload 0 1), (1, op_iload 1 1), (2, op_callV 10 160 2), (5, op_ifne 10), (8, op_ic (-1) 1), (9, op_iret), (10, op_iload 2 1), (11, op_iload 3 1), (12, op_iload 4 2), (14, op_callS 166 3), (17, op_ifne 23), (20, op_ic (-2) 2), (22, op_iret), (23, op_aload 0 1), (24, op_getA 10 5), (27, op_callV 5 57 1), (30, op_ifeq 56), (33, op_aload 0 1), (34, op_getA 10 5), (37, op_aload 0 1), (38, op_getA 10 2), (41, op_getA 3 0), (44, op_iload 1 1), (45, op_aald), (46, op_iload 2 1)]
set_option maxRecDepth 100000 in
theorem gl_149_0 : jm_gl "FrescoWall" prog_1_method_28_code 5 (Option.some Jvm.ClassFile.FieldType.int) false cl_149_0 :=
  jm_gc (pu_aload _ _) (sn_aload_n (i := 0) (jm_dc dc_149_0 0 rfl)) (
  jm_gc (pu_iload _ _) (sn_iload_n (i := 1) (jm_dc dc_149_0 1 rfl)) (
  jm_gc (pu_callV _ _ _) (sn_callV (jm_dc dc_149_0 2 rfl) lk_10_113) (
  jm_gc (pu_ifne _) (sn_ifne (jm_dc dc_149_0 3 rfl) (by decide)) (
  jm_gc (pu_ic _ _) (sn_iconst (jm_dc dc_149_0 4 rfl) (by decide)) (
  jm_gc (pu_iret) (sn_iret (jm_dc dc_149_0 5 rfl) rfl) (
  jm_gc (pu_iload _ _) (sn_iload_n (i := 2) (jm_dc dc_149_0 6 rfl)) (
  jm_gc (pu_iload _ _) (sn_iload_n (i := 3) (jm_dc dc_149_0 7 rfl)) (
  jm_gc (pu_iload _ _) (sn_iload (jm_dc dc_149_0 8 rfl)) (
  jm_gc (pu_callS _ _) (sn_callS (jm_dc dc_149_0 9 rfl) lk_10_157) (
  jm_gc (pu_ifne _) (sn_ifne (jm_dc dc_149_0 10 rfl) (by decide)) (
  jm_gc (pu_ic _ _) (sn_bipush (jm_dc dc_149_0 11 rfl) (by decide)) (
  jm_gc (pu_iret) (sn_iret (jm_dc dc_149_0 12 rfl) rfl) (
  jm_gc (pu_aload _ _) (sn_aload_n (i := 0) (jm_dc dc_149_0 13 rfl)) (
  jm_gc (pu_getA _ _) (sn_getA (jm_dc dc_149_0 14 rfl) fl_10_51 rfl) (
  jm_gc (pu_callV _ _ _) (sn_callV (jm_dc dc_149_0 15 rfl) lk_10_323) (
  jm_gc (pu_ifeq _) (sn_ifeq (jm_dc dc_149_0 16 rfl) (by decide)) (
  jm_gc (pu_aload _ _) (sn_aload_n (i := 0) (jm_dc dc_149_0 17 rfl)) (
  jm_gc (pu_getA _ _) (sn_getA (jm_dc dc_149_0 18 rfl) fl_10_51 rfl) (
  jm_gc (pu_aload _ _) (sn_aload_n (i := 0) (jm_dc dc_149_0 19 rfl)) (
  jm_gc (pu_getA _ _) (sn_getA (jm_dc dc_149_0 20 rfl) fl_10_28 rfl) (
  jm_gc (pu_getA _ _) (sn_getA (jm_dc dc_149_0 21 rfl) fl_10_118 rfl) (
  jm_gc (pu_iload _ _) (sn_iload_n (i := 1) (jm_dc dc_149_0 22 rfl)) (
  jm_gc (pu_aald) (sn_aald (jm_dc dc_149_0 23 rfl)) (
  jm_gc (pu_iload _ _) (sn_iload_n (i := 2) (jm_dc dc_149_0 24 rfl)) (
  jm_gn)))))))))))))))))))))))))
theorem dc_149_1 : ([(47, .iload_n 3, 1), (48, .iload 4, 2), (50, .invokevirtual 325, 3), (53, .goto 5, 3), (56, .bipush (-3), 2), (58, .ireturn, 1)] : List (Nat × Instr × Nat)).all (fun e => decide (decode prog_1_method_28_code e.1 = .ok e.2)) = true := by decide +kernel
abbrev cl_149_1 : List (Nat × jm_O) := [(47, op_iload 3 1), (48, op_iload 4 2), (50, op_callV 5 63 5), (53, op_goto 58), (56, op_ic (-3) 2), (58, op_iret)]
set_option maxRecDepth 100000 in
theorem gl_149_1 : jm_gl "FrescoWall" prog_1_method_28_code 5 (Option.some Jvm.ClassFile.FieldType.int) false cl_149_1 :=
  jm_gc (pu_iload _ _) (sn_iload_n (i := 3) (jm_dc dc_149_1 0 rfl)) (
  jm_gc (pu_iload _ _) (sn_iload (jm_dc dc_149_1 1 rfl)) (
  jm_gc (pu_callV _ _ _) (sn_callV (jm_dc dc_149_1 2 rfl) lk_10_325) (
  jm_gc (pu_goto _) (sn_goto (jm_dc dc_149_1 3 rfl) (by decide)) (
  jm_gc (pu_ic _ _) (sn_bipush (jm_dc dc_149_1 4 rfl) (by decide)) (
  jm_gc (pu_iret) (sn_iret (jm_dc dc_149_1 5 rfl) rfl) (
  jm_gn))))))
theorem dc_150_0 : ([(0, .aload_n 0, 1), (1, .iload_n 1, 1), (2, .invokevirtual 113, 3), (5, .ifCond .eq 12, 3), (8, .iload_n 2, 1), (9, .ifCond .lt 8, 3), (12, .iload_n 2, 1), (13, .iconst 4, 1), (14, .if_icmp .le 6, 3), (17, .ldc 117, 2), (19, .ireturn, 1), (20, .aload_n 0, 1), (21, .getfield 51, 3), (24, .invokevirtual 323, 3), (27, .ifCond .eq 22, 3), (30, .aload_n 0, 1), (31, .getfield 51, 3), (34, .aload_n 0, 1), (35, .getfield 28, 3), (38, .getfield 118, 3), (41, .iload_n 1, 1), (42, .aaload, 1), (43, .invokevirtual 329, 3), (46, .ifCond .ne 7, 3), (49, .ldc_w 333, 3)] : List (Nat × Instr × Nat)).all (fun e => decide (decode prog_1_method_29_code e.1 = .ok e.2)) = true := by decide +kernel
abbrev cl_150_0 : List (Nat × jm_O) := [(0, op_aload 0 1), (1, op_iload 1 1), (2, op_callV 10 160 2), (5, op_ifeq 17), (8, op_iload 2 1), (9, op_iflt 17), (12, op_iload 2 1), (13, op_ic 4 1), (14, op_cle 20), (17, op_ic (-100000) 2), (19, op_iret), (20, op_aload 0 1), (21, op_getA 10 5), (24, op_callV 5 57 1), (27, op_ifeq 49), (30, op_aload 0 1), (31, op_getA 10 5), (34, op_aload 0 1), (35, op_getA 10 2), (38, op_getA 3 0), (41, op_iload 1 1), (42, op_aald), (43, op_callV 5 64 2), (46, op_ifne 53), (49, op_ic (-100001) 3)]
set_option maxRecDepth 100000 in
theorem gl_150_0 : jm_gl "FrescoWall" prog_1_method_29_code 3 (Option.some Jvm.ClassFile.FieldType.int) false cl_150_0 :=
  jm_gc (pu_aload _ _) (sn_aload_n (i := 0) (jm_dc dc_150_0 0 rfl)) (
  jm_gc (pu_iload _ _) (sn_iload_n (i := 1) (jm_dc dc_150_0 1 rfl)) (
  jm_gc (pu_callV _ _ _) (sn_callV (jm_dc dc_150_0 2 rfl) lk_10_113) (
  jm_gc (pu_ifeq _) (sn_ifeq (jm_dc dc_150_0 3 rfl) (by decide)) (
  jm_gc (pu_iload _ _) (sn_iload_n (i := 2) (jm_dc dc_150_0 4 rfl)) (
  jm_gc (pu_iflt _) (sn_iflt (jm_dc dc_150_0 5 rfl) (by decide)) (
  jm_gc (pu_iload _ _) (sn_iload_n (i := 2) (jm_dc dc_150_0 6 rfl)) (
  jm_gc (pu_ic _ _) (sn_iconst (jm_dc dc_150_0 7 rfl) (by decide)) (
  jm_gc (pu_cle _) (sn_cle (jm_dc dc_150_0 8 rfl) (by decide)) (
  jm_gc (pu_ic _ _) (sn_ldc (jm_dc dc_150_0 9 rfl) (kc_tb 622 (by decide +kernel))) (
  jm_gc (pu_iret) (sn_iret (jm_dc dc_150_0 10 rfl) rfl) (
  jm_gc (pu_aload _ _) (sn_aload_n (i := 0) (jm_dc dc_150_0 11 rfl)) (
  jm_gc (pu_getA _ _) (sn_getA (jm_dc dc_150_0 12 rfl) fl_10_51 rfl) (
  jm_gc (pu_callV _ _ _) (sn_callV (jm_dc dc_150_0 13 rfl) lk_10_323) (
  jm_gc (pu_ifeq _) (sn_ifeq (jm_dc dc_150_0 14 rfl) (by decide)) (
  jm_gc (pu_aload _ _) (sn_aload_n (i := 0) (jm_dc dc_150_0 15 rfl)) (
  jm_gc (pu_getA _ _) (sn_getA (jm_dc dc_150_0 16 rfl) fl_10_51 rfl) (
  jm_gc (pu_aload _ _) (sn_aload_n (i := 0) (jm_dc dc_150_0 17 rfl)) (
  jm_gc (pu_getA _ _) (sn_getA (jm_dc dc_150_0 18 rfl) fl_10_28 rfl) (
  jm_gc (pu_getA _ _) (sn_getA (jm_dc dc_150_0 19 rfl) fl_10_118 rfl) (
  jm_gc (pu_iload _ _) (sn_iload_n (i := 1) (jm_dc dc_150_0 20 rfl)) (
  jm_gc (pu_aald) (sn_aald (jm_dc dc_150_0 21 rfl)) (
  jm_gc (pu_callV _ _ _) (sn_callV (jm_dc dc_150_0 22 rfl) lk_10_329) (
  jm_gc (pu_ifne _) (sn_ifne (jm_dc dc_150_0 23 rfl) (by decide)) (
  jm_gc (pu_ic _ _) (sn_ldcw (jm_dc dc_150_0 24 rfl) (kc_tb 1051 (by decide +kernel))) (
  jm_gn)))))))))))))))))))))))))
theorem dc_150_1 : ([(52, .ireturn, 1), (53, .iload_n 2, 1), (54, .lookupswitch 42 #[(0, 26), (4, 34)], 26), (80, .aload_n 0, 1), (81, .getfield 51, 3), (84, .getfield 334, 3), (87, .ireturn, 1), (88, .aload_n 0, 1), (89, .getfield 51, 3), (92, .getfield 337, 3), (95, .ireturn, 1), (96, .aload_n 0, 1), (97, .getfield 51, 3), (100, .getfield 340, 3), (103, .iload_n 2, 1), (104, .iconst 1, 1), (105, .isub, 1), (106, .invokestatic 192, 3), (109, .ireturn, 1)] : List (Nat × Instr × Nat)).all (fun e => decide (decode prog_1_method_29_code e.1 = .ok e.2)) = true := by decide +kernel
abbrev cl_150_1 : List (Nat × jm_O) := [(52, op_iret), (53, op_iload 2 1), (54, op_sw 96 [(0, 80), (4, 88)]), (80, op_aload 0 1), (81, op_getA 10 5), (84, op_getI 5 6), (87, op_iret), (88, op_aload 0 1), (89, op_getA 10 5), (92, op_getI 5 7), (95, op_iret), (96, op_aload 0 1), (97, op_getA 10 5), (100, op_getJ 5 8), (103, op_iload 2 1), (104, op_ic 1 1), (105, op_ibin (fun x y => x - y)), (106, op_callS 169 2), (109, op_iret)]
set_option maxRecDepth 100000 in
theorem gl_150_1 : jm_gl "FrescoWall" prog_1_method_29_code 3 (Option.some Jvm.ClassFile.FieldType.int) false cl_150_1 :=
  jm_gc (pu_iret) (sn_iret (jm_dc dc_150_1 0 rfl) rfl) (
  jm_gc (pu_iload _ _) (sn_iload_n (i := 2) (jm_dc dc_150_1 1 rfl)) (
  jm_gc (pu_sw _ _) (sn_lsw (jm_dc dc_150_1 2 rfl) (by decide) (by decide) (by decide)) (
  jm_gc (pu_aload _ _) (sn_aload_n (i := 0) (jm_dc dc_150_1 3 rfl)) (
  jm_gc (pu_getA _ _) (sn_getA (jm_dc dc_150_1 4 rfl) fl_10_51 rfl) (
  jm_gc (pu_getI _ _) (sn_getI (jm_dc dc_150_1 5 rfl) fl_10_334 (Or.inl rfl)) (
  jm_gc (pu_iret) (sn_iret (jm_dc dc_150_1 6 rfl) rfl) (
  jm_gc (pu_aload _ _) (sn_aload_n (i := 0) (jm_dc dc_150_1 7 rfl)) (
  jm_gc (pu_getA _ _) (sn_getA (jm_dc dc_150_1 8 rfl) fl_10_51 rfl) (
  jm_gc (pu_getI _ _) (sn_getI (jm_dc dc_150_1 9 rfl) fl_10_337 (Or.inl rfl)) (
  jm_gc (pu_iret) (sn_iret (jm_dc dc_150_1 10 rfl) rfl) (
  jm_gc (pu_aload _ _) (sn_aload_n (i := 0) (jm_dc dc_150_1 11 rfl)) (
  jm_gc (pu_getA _ _) (sn_getA (jm_dc dc_150_1 12 rfl) fl_10_51 rfl) (
  jm_gc (pu_getJ _ _) (sn_getJ (jm_dc dc_150_1 13 rfl) fl_10_340 rfl) (
  jm_gc (pu_iload _ _) (sn_iload_n (i := 2) (jm_dc dc_150_1 14 rfl)) (
  jm_gc (pu_ic _ _) (sn_iconst (jm_dc dc_150_1 15 rfl) (by decide)) (
  jm_gc (pu_ibin _) (sn_isub (jm_dc dc_150_1 16 rfl)) (
  jm_gc (pu_callS _ _) (sn_callS (jm_dc dc_150_1 17 rfl) lk_10_192) (
  jm_gc (pu_iret) (sn_iret (jm_dc dc_150_1 18 rfl) rfl) (
  jm_gn)))))))))))))))))))
theorem dc_151_0 : ([(0, .iload_n 1, 1), (1, .invokestatic 234, 3), (4, .istore_n 2, 1), (5, .iload_n 1, 1), (6, .aload_n 0, 1), (7, .getfield 28, 3), (10, .invokevirtual 344, 3), (13, .iconst (-1), 1), (14, .ixor, 1), (15, .iand, 1), (16, .ifCond .ne 13, 3), (19, .iload_n 2, 1), (20, .iconst 2, 1), (21, .if_icmp .lt 8, 3), (24, .iload_n 2, 1), (25, .iconst 3, 1), (26, .if_icmp .le 6, 3), (29, .bipush (-2), 2), (31, .ireturn, 1), (32, .aload_n 0, 1), (33, .getfield 60, 3), (36, .iload_n 1, 1), (37, .invokevirtual 347, 3), (40, .ifCond .eq 13, 3), (43, .aload_n 0, 1)] : List (Nat × Instr × Nat)).all (fun e => decide (decode prog_1_method_30_code e.1 = .ok e.2)) = true := by decide +kernel
abbrev cl_151_0 : List (Nat × jm_O) := [(0, op_iload 1 1), (1, op_callS 317 1), (4, op_istore 2 1), (5, op_iload 1 1), (6, op_aload 0 1), (7, op_getA 10 2), (10, op_callV 3 31 1), (13, op_ic (-1) 1), (14, op_ibin (fun x y => x ^^^ y)), (15, op_ibin (fun x y => x &&& y)), (16, op_ifne 29), (19, op_iload 2 1), (20, op_ic 2 1), (21, op_clt 29), (24, op_iload 2 1), (25, op_ic 3 1), (26, op_cle 32), (29, op_ic (-2) 2), (31, op_iret), (32, op_aload 0 1), (33, op_getA 10 6), (36, op_iload 1 1), (37, op_callV 0 3 2), (40, op_ifeq 53), (43, op_aload 0 1)]
set_option maxRecDepth 100000 in
theorem gl_151_0 : jm_gl "FrescoWall" prog_1_method_30_code 3 (Option.some Jvm.ClassFile.FieldType.int) false cl_151_0 :=
  jm_gc (pu_iload _ _) (sn_iload_n (i := 1) (jm_dc dc_151_0 0 rfl)) (
  jm_gc (pu_callS _ _) (sn_callS (jm_dc dc_151_0 1 rfl) lk_10_234) (
  jm_gc (pu_istore _ _) (sn_istore_n (i := 2) (jm_dc dc_151_0 2 rfl)) (
  jm_gc (pu_iload _ _) (sn_iload_n (i := 1) (jm_dc dc_151_0 3 rfl)) (
  jm_gc (pu_aload _ _) (sn_aload_n (i := 0) (jm_dc dc_151_0 4 rfl)) (
  jm_gc (pu_getA _ _) (sn_getA (jm_dc dc_151_0 5 rfl) fl_10_28 rfl) (
  jm_gc (pu_callV _ _ _) (sn_callV (jm_dc dc_151_0 6 rfl) lk_10_344) (
  jm_gc (pu_ic _ _) (sn_iconst (jm_dc dc_151_0 7 rfl) (by decide)) (
  jm_gc (pu_ibin _) (sn_ixor (jm_dc dc_151_0 8 rfl)) (
  jm_gc (pu_ibin _) (sn_iand (jm_dc dc_151_0 9 rfl)) (
  jm_gc (pu_ifne _) (sn_ifne (jm_dc dc_151_0 10 rfl) (by decide)) (
  jm_gc (pu_iload _ _) (sn_iload_n (i := 2) (jm_dc dc_151_0 11 rfl)) (
  jm_gc (pu_ic _ _) (sn_iconst (jm_dc dc_151_0 12 rfl) (by decide)) (
  jm_gc (pu_clt _) (sn_clt (jm_dc dc_151_0 13 rfl) (by decide)) (
  jm_gc (pu_iload _ _) (sn_iload_n (i := 2) (jm_dc dc_151_0 14 rfl)) (
  jm_gc (pu_ic _ _) (sn_iconst (jm_dc dc_151_0 15 rfl) (by decide)) (
  jm_gc (pu_cle _) (sn_cle (jm_dc dc_151_0 16 rfl) (by decide)) (
  jm_gc (pu_ic _ _) (sn_bipush (jm_dc dc_151_0 17 rfl) (by decide)) (
  jm_gc (pu_iret) (sn_iret (jm_dc dc_151_0 18 rfl) rfl) (
  jm_gc (pu_aload _ _) (sn_aload_n (i := 0) (jm_dc dc_151_0 19 rfl)) (
  jm_gc (pu_getA _ _) (sn_getA (jm_dc dc_151_0 20 rfl) fl_10_60 rfl) (
  jm_gc (pu_iload _ _) (sn_iload_n (i := 1) (jm_dc dc_151_0 21 rfl)) (
  jm_gc (pu_callV _ _ _) (sn_callV (jm_dc dc_151_0 22 rfl) lk_10_347) (
  jm_gc (pu_ifeq _) (sn_ifeq (jm_dc dc_151_0 23 rfl) (by decide)) (
  jm_gc (pu_aload _ _) (sn_aload_n (i := 0) (jm_dc dc_151_0 24 rfl)) (
  jm_gn)))))))))))))))))))))))))
theorem dc_151_1 : ([(44, .getfield 60, 3), (47, .getfield 350, 3), (50, .goto 5, 3), (53, .bipush (-5), 2), (55, .ireturn, 1)] : List (Nat × Instr × Nat)).all (fun e => decide (decode prog_1_method_30_code e.1 = .ok e.2)) = true := by decide +kernel
abbrev cl_151_1 : List (Nat × jm_O) := [(44, op_getA 10 6), (47, op_getI 0 7), (50, op_goto 55), (53, op_ic (-5) 2), (55, op_iret)]
set_option maxRecDepth 100000 in
theorem gl_151_1 : jm_gl "FrescoWall" prog_1_method_30_code 3 (Option.some Jvm.ClassFile.FieldType.int) false cl_151_1 :=
  jm_gc (pu_getA _ _) (sn_getA (jm_dc dc_151_1 0 rfl) fl_10_60 rfl) (
  jm_gc (pu_getI _ _) (sn_getI (jm_dc dc_151_1 1 rfl) fl_10_350 (Or.inl rfl)) (
  jm_gc (pu_goto _) (sn_goto (jm_dc dc_151_1 2 rfl) (by decide)) (
  jm_gc (pu_ic _ _) (sn_bipush (jm_dc dc_151_1 3 rfl) (by decide)) (
  jm_gc (pu_iret) (sn_iret (jm_dc dc_151_1 4 rfl) rfl) (
  jm_gn)))))
theorem dc_152_0 : ([(0, .aload_n 0, 1), (1, .iload_n 1, 1), (2, .invokevirtual 113, 3), (5, .ifCond .eq 14, 3), (8, .aload_n 0, 1), (9, .getfield 60, 3), (12, .iload_n 1, 1), (13, .invokevirtual 353, 3), (16, .ifCond .ne 6, 3), (19, .ldc 117, 2), (21, .ireturn, 1), (22, .aload_n 0, 1), (23, .getfield 60, 3), (26, .iload_n 1, 1), (27, .invokevirtual 356, 3), (30, .iload_n 2, 1), (31, .invokestatic 192, 3), (34, .ireturn, 1)] : List (Nat × Instr × Nat)).all (fun e => decide (decode prog_1_method_31_code e.1 = .ok e.2)) = true := by decide +kernel
abbrev cl_152_0 : List (Nat × jm_O) := [(0, op_aload 0 1), (1, op_iload 1 1), (2, op_callV 10 160 2), (5, op_ifeq 19), (8, op_aload 0 1), (9, op_getA 10 6), (12, op_iload 1 1), (13, op_callV 0 1 2), (16, op_ifne 22), (19, op_ic (-100000) 2), (21, op_iret), (22, op_aload 0 1), (23, op_getA 10 6), (26, op_iload 1 1), (27, op_callV 0 2 2), (30, op_iload 2 1), (31, op_callS 169 2), (34, op_iret)]
set_option maxRecDepth 100000 in
theorem gl_152_0 : jm_gl "FrescoWall" prog_1_method_31_code 3 (Option.some Jvm.ClassFile.FieldType.int) false cl_152_0 :=
  jm_gc (pu_aload _ _) (sn_aload_n (i := 0) (jm_dc dc_152_0 0 rfl)) (
  jm_gc (pu_iload _ _) (sn_iload_n (i := 1) (jm_dc dc_152_0 1 rfl)) (
  jm_gc (pu_callV _ _ _) (sn_callV (jm_dc dc_152_0 2 rfl) lk_10_113) (
  jm_gc (pu_ifeq _) (sn_ifeq (jm_dc dc_152_0 3 rfl) (by decide)) (
  jm_gc (pu_aload _ _) (sn_aload_n (i := 0) (jm_dc dc_152_0 4 rfl)) (
  jm_gc (pu_getA _ _) (sn_getA (jm_dc dc_152_0 5 rfl) fl_10_60 rfl) (
  jm_gc (pu_iload _ _) (sn_iload_n (i := 1) (jm_dc dc_152_0 6 rfl)) (
  jm_gc (pu_callV _ _ _) (sn_callV (jm_dc dc_152_0 7 rfl) lk_10_353) (
  jm_gc (pu_ifne _) (sn_ifne (jm_dc dc_152_0 8 rfl) (by decide)) (
  jm_gc (pu_ic _ _) (sn_ldc (jm_dc dc_152_0 9 rfl) (kc_tb 622 (by decide +kernel))) (
  jm_gc (pu_iret) (sn_iret (jm_dc dc_152_0 10 rfl) rfl) (
  jm_gc (pu_aload _ _) (sn_aload_n (i := 0) (jm_dc dc_152_0 11 rfl)) (
  jm_gc (pu_getA _ _) (sn_getA (jm_dc dc_152_0 12 rfl) fl_10_60 rfl) (
  jm_gc (pu_iload _ _) (sn_iload_n (i := 1) (jm_dc dc_152_0 13 rfl)) (
  jm_gc (pu_callV _ _ _) (sn_callV (jm_dc dc_152_0 14 rfl) lk_10_356) (
  jm_gc (pu_iload _ _) (sn_iload_n (i := 2) (jm_dc dc_152_0 15 rfl)) (
  jm_gc (pu_callS _ _) (sn_callS (jm_dc dc_152_0 16 rfl) lk_10_192) (
  jm_gc (pu_iret) (sn_iret (jm_dc dc_152_0 17 rfl) rfl) (
  jm_gn))))))))))))))))))
theorem dc_153_0 : ([(0, .aload_n 0, 1), (1, .getfield 10, 3), (4, .bipush 118, 2), (6, .invokevirtual 360, 3), (9, .ifCond .eq 13, 3), (12, .aload_n 0, 1), (13, .getfield 44, 3), (16, .invokevirtual 363, 3), (19, .goto 4, 3), (22, .iconst 0, 1), (23, .istore_n 1, 1), (24, .aload_n 0, 1), (25, .getfield 76, 3), (28, .aload_n 0, 1), (29, .getfield 10, 3), (32, .aload_n 0, 1), (33, .getfield 44, 3), (36, .invokevirtual 366, 3), (39, .iload_n 1, 1), (40, .invokevirtual 369, 3), (43, .istore_n 2, 1), (44, .aload_n 0, 1), (45, .getfield 10, 3), (48, .iconst 0, 1), (49, .putfield 80, 3)] : List (Nat × Instr × Nat)).all (fun e => decide (decode prog_1_method_32_code e.1 = .ok e.2)) = true := by decide +kernel
abbrev cl_153_0 : List (Nat × jm_O) := [(0, op_aload 0 1), (1, op_getA 10 0), (4, op_ic 118 2), (6, op_callV 8 98 2), (9, op_ifeq 22), (12, op_aload 0 1), (13, op_getA 10 4), (16, op_callV 9 120 1), (19, op_goto 23), (22, op_ic 0 1), (23, op_istore 1 1), (24, op_aload 0 1), (25, op_getA 10 8), (28, op_aload 0 1), (29, op_getA 10 0), (32, op_aload 0 1), (33, op_getA 10 4), (36, op_callV 9 103 1), (39, op_iload 1 1), (40, op_callV 6 68 4), (43, op_istore 2 1), (44, op_aload 0 1), (45, op_getA 10 0), (48, op_ic 0 1), (49, op_putI 8 0)]
set_option maxRecDepth 100000 in
theorem gl_153_0 : jm_gl "FrescoWall" prog_1_method_32_code 3 (Option.some Jvm.ClassFile.FieldType.int) false cl_153_0 :=
  jm_gc (pu_aload _ _) (sn_aload_n (i := 0) (jm_dc dc_153_0 0 rfl)) (
  jm_gc (pu_getA _ _) (sn_getA (jm_dc dc_153_0 1 rfl) fl_10_10 rfl) (
  jm_gc (pu_ic _ _) (sn_bipush (jm_dc dc_153_0 2 rfl) (by decide)) (
  jm_gc (pu_callV _ _ _) (sn_callV (jm_dc dc_153_0 3 rfl) lk_10_360) (
  jm_gc (pu_ifeq _) (sn_ifeq (jm_dc dc_153_0 4 rfl) (by decide)) (
  jm_gc (pu_aload _ _) (sn_aload_n (i := 0) (jm_dc dc_153_0 5 rfl)) (
  jm_gc (pu_getA _ _) (sn_getA (jm_dc dc_153_0 6 rfl) fl_10_44 rfl) (
  jm_gc (pu_callV _ _ _) (sn_callV (jm_dc dc_153_0 7 rfl) lk_10_363) (
  jm_gc (pu_goto _) (sn_goto (jm_dc dc_153_0 8 rfl) (by decide)) (
  jm_gc (pu_ic _ _) (sn_iconst (jm_dc dc_153_0 9 rfl) (by decide)) (
  jm_gc (pu_istore _ _) (sn_istore_n (i := 1) (jm_dc dc_153_0 10 rfl)) (
  jm_gc (pu_aload _ _) (sn_aload_n (i := 0) (jm_dc dc_153_0 11 rfl)) (
  jm_gc (pu_getA _ _) (sn_getA (jm_dc dc_153_0 12 rfl) fl_10_76 rfl) (
  jm_gc (pu_aload _ _) (sn_aload_n (i := 0) (jm_dc dc_153_0 13 rfl)) (
  jm_gc (pu_getA _ _) (sn_getA (jm_dc dc_153_0 14 rfl) fl_10_10 rfl) (
  jm_gc (pu_aload _ _) (sn_aload_n (i := 0) (jm_dc dc_153_0 15 rfl)) (
  jm_gc (pu_getA _ _) (sn_getA (jm_dc dc_153_0 16 rfl) fl_10_44 rfl) (
  jm_gc (pu_callV _ _ _) (sn_callV (jm_dc dc_153_0 17 rfl) lk_10_366) (
  jm_gc (pu_iload _ _) (sn_iload_n (i := 1) (jm_dc dc_153_0 18 rfl)) (
  jm_gc (pu_callV _ _ _) (sn_callV (jm_dc dc_153_0 19 rfl) lk_10_369) (
  jm_gc (pu_istore _ _) (sn_istore_n (i := 2) (jm_dc dc_153_0 20 rfl)) (
  jm_gc (pu_aload _ _) (sn_aload_n (i := 0) (jm_dc dc_153_0 21 rfl)) (
  jm_gc (pu_getA _ _) (sn_getA (jm_dc dc_153_0 22 rfl) fl_10_10 rfl) (
  jm_gc (pu_ic _ _) (sn_iconst (jm_dc dc_153_0 23 rfl) (by decide)) (
  jm_gc (pu_putI _ _) (sn_putI (jm_dc dc_153_0 24 rfl) flw_10_80 rfl) (
  jm_gn)))))))))))))))))))))))))
theorem dc_153_1 : ([(52, .iload_n 2, 1), (53, .ifCond .ge 16, 3), (56, .aload_n 0, 1), (57, .getfield 76, 3), (60, .getfield 372, 3), (63, .invokestatic 234, 3), (66, .goto 7, 3), (69, .bipush (-10), 2), (71, .iload_n 2, 1), (72, .isub, 1), (73, .ireturn, 1)] : List (Nat × Instr × Nat)).all (fun e => decide (decode prog_1_method_32_code e.1 = .ok e.2)) = true := by decide +kernel
abbrev cl_153_1 : List (Nat × jm_O) := [(52, op_iload 2 1), (53, op_ifge 69), (56, op_aload 0 1), (57, op_getA 10 8), (60, op_getI 6 10), (63, op_callS 317 1), (66, op_goto 73), (69, op_ic (-10) 2), (71, op_iload 2 1), (72, op_ibin (fun x y => x - y)), (73, op_iret)]
set_option maxRecDepth 100000 in
theorem gl_153_1 : jm_gl "FrescoWall" prog_1_method_32_code 3 (Option.some Jvm.ClassFile.FieldType.int) false cl_153_1 :=
  jm_gc (pu_iload _ _) (sn_iload_n (i := 2) (jm_dc dc_153_1 0 rfl)) (
  jm_gc (pu_ifge _) (sn_ifge (jm_dc dc_153_1 1 rfl) (by decide)) (
  jm_gc (pu_aload _ _) (sn_aload_n (i := 0) (jm_dc dc_153_1 2 rfl)) (
  jm_gc (pu_getA _ _) (sn_getA (jm_dc dc_153_1 3 rfl) fl_10_76 rfl) (
  jm_gc (pu_getI _ _) (sn_getI (jm_dc dc_153_1 4 rfl) fl_10_372 (Or.inl rfl)) (
  jm_gc (pu_callS _ _) (sn_callS (jm_dc dc_153_1 5 rfl) lk_10_234) (
  jm_gc (pu_goto _) (sn_goto (jm_dc dc_153_1 6 rfl) (by decide)) (
  jm_gc (pu_ic _ _) (sn_bipush (jm_dc dc_153_1 7 rfl) (by decide)) (
  jm_gc (pu_iload _ _) (sn_iload_n (i := 2) (jm_dc dc_153_1 8 rfl)) (
  jm_gc (pu_ibin _) (sn_isub (jm_dc dc_153_1 9 rfl)) (
  jm_gc (pu_iret) (sn_iret (jm_dc dc_153_1 10 rfl) rfl) (
  jm_gn)))))))))))
theorem dc_154_0 : ([(0, .aload_n 0, 1), (1, .getfield 76, 3), (4, .getfield 372, 3), (7, .istore_n 2, 1), (8, .iload_n 1, 1), (9, .ifCond .lt 11, 3), (12, .iload_n 1, 1), (13, .iload_n 2, 1), (14, .invokestatic 234, 3), (17, .if_icmp .lt 5, 3), (20, .iconst (-1), 1), (21, .ireturn, 1), (22, .iconst 0, 1), (23, .istore_n 3, 1), (24, .iload_n 3, 1), (25, .iload_n 1, 1), (26, .if_icmp .ge 15, 3), (29, .iload_n 2, 1), (30, .iload_n 2, 1), (31, .iconst 1, 1), (32, .isub, 1), (33, .iand, 1), (34, .istore_n 2, 1), (35, .iinc 3 1, 3), (38, .goto (-14), 3)] : List (Nat × Instr × Nat)).all (fun e => decide (decode prog_1_method_33_code e.1 = .ok e.2)) = true := by decide +kernel
abbrev cl_154_0 : List (Nat × jm_O) := [(0, op_aload 0 1), (1, op_getA 10 8), (4, op_getI 6 10), (7, op_istore 2 1), (8, op_iload 1 1), (9, op_iflt 20), (12, op_iload 1 1), (13, op_iload 2 1), (14, op_callS 317 1), (17, op_clt 22), (20, op_ic (-1) 1), (21, op_iret), (22, op_ic 0 1), (23, op_istore 3 1), (24, op_iload 3 1), (25, op_iload 1 1), (26, op_cge 41), (29, op_iload 2 1), (30, op_iload 2 1), (31, op_ic 1 1), (32, op_ibin (fun x y => x - y)), (33, op_ibin (fun x y => x &&& y)), (34, op_istore 2 1), (35, op_iinc 3 1), (38, op_goto 24)]
set_option maxRecDepth 100000 in
theorem gl_154_0 : jm_gl "FrescoWall" prog_1_method_33_code 4 (Option.some Jvm.ClassFile.FieldType.int) false cl_154_0 :=
  jm_gc (pu_aload _ _) (sn_aload_n (i := 0) (jm_dc dc_154_0 0 rfl)) (
  jm_gc (pu_getA _ _) (sn_getA (jm_dc dc_154_0 1 rfl) fl_10_76 rfl) (
  jm_gc (pu_getI _ _) (sn_getI (jm_dc dc_154_0 2 rfl) fl_10_372 (Or.inl rfl)) (
  jm_gc (pu_istore _ _) (sn_istore_n (i := 2) (jm_dc dc_154_0 3 rfl)) (
  jm_gc (pu_iload _ _) (sn_iload_n (i := 1) (jm_dc dc_154_0 4 rfl)) (
  jm_gc (pu_iflt _) (sn_iflt (jm_dc dc_154_0 5 rfl) (by decide)) (
  jm_gc (pu_iload _ _) (sn_iload_n (i := 1) (jm_dc dc_154_0 6 rfl)) (
  jm_gc (pu_iload _ _) (sn_iload_n (i := 2) (jm_dc dc_154_0 7 rfl)) (
  jm_gc (pu_callS _ _) (sn_callS (jm_dc dc_154_0 8 rfl) lk_10_234) (
  jm_gc (pu_clt _) (sn_clt (jm_dc dc_154_0 9 rfl) (by decide)) (
  jm_gc (pu_ic _ _) (sn_iconst (jm_dc dc_154_0 10 rfl) (by decide)) (
  jm_gc (pu_iret) (sn_iret (jm_dc dc_154_0 11 rfl) rfl) (
  jm_gc (pu_ic _ _) (sn_iconst (jm_dc dc_154_0 12 rfl) (by decide)) (
  jm_gc (pu_istore _ _) (sn_istore_n (i := 3) (jm_dc dc_154_0 13 rfl)) (
  jm_gc (pu_iload _ _) (sn_iload_n (i := 3) (jm_dc dc_154_0 14 rfl)) (
  jm_gc (pu_iload _ _) (sn_iload_n (i := 1) (jm_dc dc_154_0 15 rfl)) (
  jm_gc (pu_cge _) (sn_cge (jm_dc dc_154_0 16 rfl) (by decide)) (
  jm_gc (pu_iload _ _) (sn_iload_n (i := 2) (jm_dc dc_154_0 17 rfl)) (
  jm_gc (pu_iload _ _) (sn_iload_n (i := 2) (jm_dc dc_154_0 18 rfl)) (
  jm_gc (pu_ic _ _) (sn_iconst (jm_dc dc_154_0 19 rfl) (by decide)) (
  jm_gc (pu_ibin _) (sn_isub (jm_dc dc_154_0 20 rfl)) (
  jm_gc (pu_ibin _) (sn_iand (jm_dc dc_154_0 21 rfl)) (
  jm_gc (pu_istore _ _) (sn_istore_n (i := 2) (jm_dc dc_154_0 22 rfl)) (
  jm_gc (pu_iinc _ _) (sn_iinc (jm_dc dc_154_0 23 rfl) (by decide)) (
  jm_gc (pu_goto _) (sn_goto (jm_dc dc_154_0 24 rfl) (by decide)) (
  jm_gn)))))))))))))))))))))))))
theorem dc_154_1 : ([(41, .iload_n 2, 1), (42, .invokestatic 249, 3), (45, .ireturn, 1)] : List (Nat × Instr × Nat)).all (fun e => decide (decode prog_1_method_33_code e.1 = .ok e.2)) = true := by decide +kernel
abbrev cl_154_1 : List (Nat × jm_O) := [(41, op_iload 2 1), (42, op_callS 319 1), (45, op_iret)]
set_option maxRecDepth 100000 in
theorem gl_154_1 : jm_gl "FrescoWall" prog_1_method_33_code 4 (Option.some Jvm.ClassFile.FieldType.int) false cl_154_1 :=
  jm_gc (pu_iload _ _) (sn_iload_n (i := 2) (jm_dc dc_154_1 0 rfl)) (
  jm_gc (pu_callS _ _) (sn_callS (jm_dc dc_154_1 1 rfl) lk_10_249) (
  jm_gc (pu_iret) (sn_iret (jm_dc dc_154_1 2 rfl) rfl) (
  jm_gn)))
theorem dc_155_0 : ([(0, .aload_n 0, 1), (1, .iload_n 1, 1), (2, .invokevirtual 113, 3), (5, .ifCond .eq 14, 3), (8, .iload_n 2, 1), (9, .iconst (-1), 1), (10, .if_icmp .lt 9, 3), (13, .iload_n 2, 1), (14, .bipush 10, 2), (16, .if_icmp .lt 5, 3), (19, .iconst (-1), 1), (20, .ireturn, 1), (21, .iload_n 3, 1), (22, .invokestatic 375, 3), (25, .ifCond .ne 6, 3), (28, .bipush (-2), 2), (30, .ireturn, 1), (31, .aload_n 0, 1), (32, .getfield 67, 3), (35, .invokevirtual 378, 3), (38, .ifCond .eq 8, 3), (41, .bipush (-4), 2), (43, .goto 13, 3), (46, .aload_n 0, 1), (47, .getfield 67, 3)] : List (Nat × Instr × Nat)).all (fun e => decide (decode prog_1_method_34_code e.1 = .ok e.2)) = true := by decide +kernel
abbrev cl_155_0 : List (Nat × jm_O) := [(0, op_aload 0 1), (1, op_iload 1 1), (2, op_callV 10 160 2), (5, op_ifeq 19), (8, op_iload 2 1), (9, op_ic (-1) 1), (10, op_clt 19), (13, op_iload 2 1), (14, op_ic 10 2), (16, op_clt 21), (19, op_ic (-1) 1), (20, op_iret), (21, op_iload 3 1), (22, op_callS 167 1), (25, op_ifne 31), (28, op_ic (-2) 2), (30, op_iret), (31, op_aload 0 1), (32, op_getA 10 7), (35, op_callV 2 20 1), (38, op_ifeq 46), (41, op_ic (-4) 2), (43, op_goto 56), (46, op_aload 0 1), (47, op_getA 10 7)]
set_option maxRecDepth 100000 in
theorem gl_155_0 : jm_gl "FrescoWall" prog_1_method_34_code 4 (Option.some Jvm.ClassFile.FieldType.int) false cl_155_0 :=
  jm_gc (pu_aload _ _) (sn_aload_n (i := 0) (jm_dc dc_155_0 0 rfl)) (
  jm_gc (pu_iload _ _) (sn_iload_n (i := 1) (jm_dc dc_155_0 1 rfl)) (
  jm_gc (pu_callV _ _ _) (sn_callV (jm_dc dc_155_0 2 rfl) lk_10_113) (
  jm_gc (pu_ifeq _) (sn_ifeq (jm_dc dc_155_0 3 rfl) (by decide)) (
  jm_gc (pu_iload _ _) (sn_iload_n (i := 2) (jm_dc dc_155_0 4 rfl)) (
  jm_gc (pu_ic _ _) (sn_iconst (jm_dc dc_155_0 5 rfl) (by decide)) (
  jm_gc (pu_clt _) (sn_clt (jm_dc dc_155_0 6 rfl) (by decide)) (
  jm_gc (pu_iload _ _) (sn_iload_n (i := 2) (jm_dc dc_155_0 7 rfl)) (
  jm_gc (pu_ic _ _) (sn_bipush (jm_dc dc_155_0 8 rfl) (by decide)) (
  jm_gc (pu_clt _) (sn_clt (jm_dc dc_155_0 9 rfl) (by decide)) (
  jm_gc (pu_ic _ _) (sn_iconst (jm_dc dc_155_0 10 rfl) (by decide)) (
  jm_gc (pu_iret) (sn_iret (jm_dc dc_155_0 11 rfl) rfl) (
  jm_gc (pu_iload _ _) (sn_iload_n (i := 3) (jm_dc dc_155_0 12 rfl)) (
  jm_gc (pu_callS _ _) (sn_callS (jm_dc dc_155_0 13 rfl) lk_10_375) (
  jm_gc (pu_ifne _) (sn_ifne (jm_dc dc_155_0 14 rfl) (by decide)) (
  jm_gc (pu_ic _ _) (sn_bipush (jm_dc dc_155_0 15 rfl) (by decide)) (
  jm_gc (pu_iret) (sn_iret (jm_dc dc_155_0 16 rfl) rfl) (
  jm_gc (pu_aload _ _) (sn_aload_n (i := 0) (jm_dc dc_155_0 17 rfl)) (
  jm_gc (pu_getA _ _) (sn_getA (jm_dc dc_155_0 18 rfl) fl_10_67 rfl) (
  jm_gc (pu_callV _ _ _) (sn_callV (jm_dc dc_155_0 19 rfl) lk_10_378) (
  jm_gc (pu_ifeq _) (sn_ifeq (jm_dc dc_155_0 20 rfl) (by decide)) (
  jm_gc (pu_ic _ _) (sn_bipush (jm_dc dc_155_0 21 rfl) (by decide)) (
  jm_gc (pu_goto _) (sn_goto (jm_dc dc_155_0 22 rfl) (by decide)) (
  jm_gc (pu_aload _ _) (sn_aload_n (i := 0) (jm_dc dc_155_0 23 rfl)) (
  jm_gc (pu_getA _ _) (sn_getA (jm_dc dc_155_0 24 rfl) fl_10_67 rfl) (
  jm_gn)))))))))))))))))))))))))
theorem dc_155_1 : ([(50, .iload_n 1, 1), (51, .iload_n 2, 1), (52, .iload_n 3, 1), (53, .invokevirtual 381, 3), (56, .ireturn, 1)] : List (Nat × Instr × Nat)).all (fun e => decide (decode prog_1_method_34_code e.1 = .ok e.2)) = true := by decide +kernel
abbrev cl_155_1 : List (Nat × jm_O) := [(50, op_iload 1 1), (51, op_iload 2 1), (52, op_iload 3 1), (53, op_callV 2 21 4), (56, op_iret)]
set_option maxRecDepth 100000 in
theorem gl_155_1 : jm_gl "FrescoWall" prog_1_method_34_code 4 (Option.some Jvm.ClassFile.FieldType.int) false cl_155_1 :=
  jm_gc (pu_iload _ _) (sn_iload_n (i := 1) (jm_dc dc_155_1 0 rfl)) (
  jm_gc (pu_iload _ _) (sn_iload_n (i := 2) (jm_dc dc_155_1 1 rfl)) (
  jm_gc (pu_iload _ _) (sn_iload_n (i := 3) (jm_dc dc_155_1 2 rfl)) (
  jm_gc (pu_callV _ _ _) (sn_callV (jm_dc dc_155_1 3 rfl) lk_10_381) (
  jm_gc (pu_iret) (sn_iret (jm_dc dc_155_1 4 rfl) rfl) (
  jm_gn)))))
theorem dc_156_0 : ([(0, .aload_n 0, 1), (1, .iload_n 1, 1), (2, .invokevirtual 113, 3), (5, .ifCond .eq 18, 3), (8, .iload_n 3, 1), (9, .ifCond .lt 14, 3), (12, .iload_n 3, 1), (13, .aload_n 0, 1), (14, .getfield 67, 3), (17, .getfield 385, 3), (20, .if_icmp .le 5, 3), (23, .iconst (-1), 1), (24, .ireturn, 1), (25, .iload_n 2, 1), (26, .invokestatic 375, 3), (29, .ifCond .ne 6, 3), (32, .bipush (-2), 2), (34, .ireturn, 1), (35, .aload_n 0, 1), (36, .getfield 67, 3), (39, .iload_n 1, 1), (40, .iload_n 2, 1), (41, .iload_n 3, 1), (42, .invokevirtual 386, 3), (45, .istore 4, 2)] : List (Nat × Instr × Nat)).all (fun e => decide (decode prog_1_method_35_code e.1 = .ok e.2)) = true := by decide +kernel
abbrev cl_156_0 : List (Nat × jm_O) := [(0, op_aload 0 1), (1, op_iload 1 1), (2, op_callV 10 160 2), (5, op_ifeq 23), (8, op_iload 3 1), (9, op_iflt 23), (12, op_iload 3 1), (13, op_aload 0 1), (14, op_getA 10 7), (17, op_getI 2 0), (20, op_cle 25), (23, op_ic (-1) 1), (24, op_iret), (25, op_iload 2 1), (26, op_callS 167 1), (29, op_ifne 35), (32, op_ic (-2) 2), (34, op_iret), (35, op_aload 0 1), (36, op_getA 10 7), (39, op_iload 1 1), (40, op_iload 2 1), (41, op_iload 3 1), (42, op_callV 2 22 4), (45, op_istore 4 2)]
set_option maxRecDepth 100000 in
theorem gl_156_0 : jm_gl "FrescoWall" prog_1_method_35_code 5 (Option.some Jvm.ClassFile.FieldType.int) false cl_156_0 :=
  jm_gc (pu_aload _ _) (sn_aload_n (i := 0) (jm_dc dc_156_0 0 rfl)) (
  jm_gc (pu_iload _ _) (sn_iload_n (i := 1) (jm_dc dc_156_0 1 rfl)) (
  jm_gc (pu_callV _ _ _) (sn_callV (jm_dc dc_156_0 2 rfl) lk_10_113) (
  jm_gc (pu_ifeq _) (sn_ifeq (jm_dc dc_156_0 3 rfl) (by decide)) (
  jm_gc (pu_iload _ _) (sn_iload_n (i := 3) (jm_dc dc_156_0 4 rfl)) (
  jm_gc (pu_iflt _) (sn_iflt (jm_dc dc_156_0 5 rfl) (by decide)) (
  jm_gc (pu_iload _ _) (sn_iload_n (i := 3) (jm_dc dc_156_0 6 rfl)) (
  jm_gc (pu_aload _ _) (sn_aload_n (i := 0) (jm_dc dc_156_0 7 rfl)) (
  jm_gc (pu_getA _ _) (sn_getA (jm_dc dc_156_0 8 rfl) fl_10_67 rfl) (
  jm_gc (pu_getI _ _) (sn_getI (jm_dc dc_156_0 9 rfl) fl_10_385 (Or.inl rfl)) (
  jm_gc (pu_cle _) (sn_cle (jm_dc dc_156_0 10 rfl) (by decide)) (
  jm_gc (pu_ic _ _) (sn_iconst (jm_dc dc_156_0 11 rfl) (by decide)) (
  jm_gc (pu_iret) (sn_iret (jm_dc dc_156_0 12 rfl) rfl) (
  jm_gc (pu_iload _ _) (sn_iload_n (i := 2) (jm_dc dc_156_0 13 rfl)) (
  jm_gc (pu_callS _ _) (sn_callS (jm_dc dc_156_0 14 rfl) lk_10_375) (
  jm_gc (pu_ifne _) (sn_ifne (jm_dc dc_156_0 15 rfl) (by decide)) (
  jm_gc (pu_ic _ _) (sn_bipush (jm_dc dc_156_0 16 rfl) (by decide)) (
  jm_gc (pu_iret) (sn_iret (jm_dc dc_156_0 17 rfl) rfl) (
  jm_gc (pu_aload _ _) (sn_aload_n (i := 0) (jm_dc dc_156_0 18 rfl)) (
  jm_gc (pu_getA _ _) (sn_getA (jm_dc dc_156_0 19 rfl) fl_10_67 rfl) (
  jm_gc (pu_iload _ _) (sn_iload_n (i := 1) (jm_dc dc_156_0 20 rfl)) (
  jm_gc (pu_iload _ _) (sn_iload_n (i := 2) (jm_dc dc_156_0 21 rfl)) (
  jm_gc (pu_iload _ _) (sn_iload_n (i := 3) (jm_dc dc_156_0 22 rfl)) (
  jm_gc (pu_callV _ _ _) (sn_callV (jm_dc dc_156_0 23 rfl) lk_10_386) (
  jm_gc (pu_istore _ _) (sn_istore (jm_dc dc_156_0 24 rfl)) (
  jm_gn)))))))))))))))))))))))))
theorem dc_156_1 : ([(47, .iload 4, 2), (49, .ifCond .ge 8, 3), (52, .bipush (-5), 2), (54, .goto 5, 3), (57, .iload 4, 2), (59, .ireturn, 1)] : List (Nat × Instr × Nat)).all (fun e => decide (decode prog_1_method_35_code e.1 = .ok e.2)) = true := by decide +kernel
abbrev cl_156_1 : List (Nat × jm_O) := [(47, op_iload 4 2), (49, op_ifge 57), (52, op_ic (-5) 2), (54, op_goto 59), (57, op_iload 4 2), (59, op_iret)]
set_option maxRecDepth 100000 in
theorem gl_156_1 : jm_gl "FrescoWall" prog_1_method_35_code 5 (Option.some Jvm.ClassFile.FieldType.int) false cl_156_1 :=
  jm_gc (pu_iload _ _) (sn_iload (jm_dc dc_156_1 0 rfl)) (
  jm_gc (pu_ifge _) (sn_ifge (jm_dc dc_156_1 1 rfl) (by decide)) (
  jm_gc (pu_ic _ _) (sn_bipush (jm_dc dc_156_1 2 rfl) (by decide)) (
  jm_gc (pu_goto _) (sn_goto (jm_dc dc_156_1 3 rfl) (by decide)) (
  jm_gc (pu_iload _ _) (sn_iload (jm_dc dc_156_1 4 rfl)) (
  jm_gc (pu_iret) (sn_iret (jm_dc dc_156_1 5 rfl) rfl) (
  jm_gn))))))
theorem dc_157_0 : ([(0, .iload_n 1, 1), (1, .invokestatic 389, 3), (4, .ifCond .eq 10, 3), (7, .iload_n 2, 1), (8, .invokestatic 168, 3), (11, .ifCond .ne 5, 3), (14, .iconst (-1), 1), (15, .ireturn, 1), (16, .iload_n 3, 1), (17, .invokestatic 168, 3), (20, .ifCond .ne 6, 3), (23, .bipush (-2), 2), (25, .ireturn, 1), (26, .aload_n 0, 1), (27, .getfield 67, 3), (30, .getfield 392, 3), (33, .bipush 10, 2), (35, .iload_n 1, 1), (36, .imul, 1), (37, .iload_n 2, 1), (38, .iadd, 1), (39, .iaload, 1), (40, .istore 4, 2), (42, .aload_n 0, 1), (43, .getfield 67, 3)] : List (Nat × Instr × Nat)).all (fun e => decide (decode prog_1_method_36_code e.1 = .ok e.2)) = true := by decide +kernel
abbrev cl_157_0 : List (Nat × jm_O) := [(0, op_iload 1 1), (1, op_callS 168 1), (4, op_ifeq 14), (7, op_iload 2 1), (8, op_callS 164 1), (11, op_ifne 16), (14, op_ic (-1) 1), (15, op_iret), (16, op_iload 3 1), (17, op_callS 164 1), (20, op_ifne 26), (23, op_ic (-2) 2), (25, op_iret), (26, op_aload 0 1), (27, op_getA 10 7), (30, op_getA 2 4), (33, op_ic 10 2), (35, op_iload 1 1), (36, op_ibin (fun x y => x * y)), (37, op_iload 2 1), (38, op_ibin (fun x y => x + y)), (39, op_iald 13), (40, op_istore 4 2), (42, op_aload 0 1), (43, op_getA 10 7)]
set_option maxRecDepth 100000 in
theorem gl_157_0 : jm_gl "FrescoWall" prog_1_method_36_code 5 (Option.some Jvm.ClassFile.FieldType.int) false cl_157_0 :=
  jm_gc (pu_iload _ _) (sn_iload_n (i := 1) (jm_dc dc_157_0 0 rfl)) (
  jm_gc (pu_callS _ _) (sn_callS (jm_dc dc_157_0 1 rfl) lk_10_389) (
  jm_gc (pu_ifeq _) (sn_ifeq (jm_dc dc_157_0 2 rfl) (by decide)) (
  jm_gc (pu_iload _ _) (sn_iload_n (i := 2) (jm_dc dc_157_0 3 rfl)) (
  jm_gc (pu_callS _ _) (sn_callS (jm_dc dc_157_0 4 rfl) lk_10_168) (
  jm_gc (pu_ifne _) (sn_ifne (jm_dc dc_157_0 5 rfl) (by decide)) (
  jm_gc (pu_ic _ _) (sn_iconst (jm_dc dc_157_0 6 rfl) (by decide)) (
  jm_gc (pu_iret) (sn_iret (jm_dc dc_157_0 7 rfl) rfl) (
  jm_gc (pu_iload _ _) (sn_iload_n (i := 3) (jm_dc dc_157_0 8 rfl)) (
  jm_gc (pu_callS _ _) (sn_callS (jm_dc dc_157_0 9 rfl) lk_10_168) (
  jm_gc (pu_ifne _) (sn_ifne (jm_dc dc_157_0 10 rfl) (by decide)) (
  jm_gc (pu_ic _ _) (sn_bipush (jm_dc dc_157_0 11 rfl) (by decide)) (
  jm_gc (pu_iret) (sn_iret (jm_dc dc_157_0 12 rfl) rfl) (
  jm_gc (pu_aload _ _) (sn_aload_n (i := 0) (jm_dc dc_157_0 13 rfl)) (
  jm_gc (pu_getA _ _) (sn_getA (jm_dc dc_157_0 14 rfl) fl_10_67 rfl) (
  jm_gc (pu_getA _ _) (sn_getA (jm_dc dc_157_0 15 rfl) fl_10_392 rfl) (
  jm_gc (pu_ic _ _) (sn_bipush (jm_dc dc_157_0 16 rfl) (by decide)) (
  jm_gc (pu_iload _ _) (sn_iload_n (i := 1) (jm_dc dc_157_0 17 rfl)) (
  jm_gc (pu_ibin _) (sn_imul (jm_dc dc_157_0 18 rfl)) (
  jm_gc (pu_iload _ _) (sn_iload_n (i := 2) (jm_dc dc_157_0 19 rfl)) (
  jm_gc (pu_ibin _) (sn_iadd (jm_dc dc_157_0 20 rfl)) (
  jm_gc (pu_iald _) (sn_iald (jm_dc dc_157_0 21 rfl)) (
  jm_gc (pu_istore _ _) (sn_istore (jm_dc dc_157_0 22 rfl)) (
  jm_gc (pu_aload _ _) (sn_aload_n (i := 0) (jm_dc dc_157_0 23 rfl)) (
  jm_gc (pu_getA _ _) (sn_getA (jm_dc dc_157_0 24 rfl) fl_10_67 rfl) (
  jm_gn)))))))))))))))))))))))))
theorem dc_157_1 : ([(46, .getfield 392, 3), (49, .bipush 10, 2), (51, .iload_n 1, 1), (52, .imul, 1), (53, .iload_n 2, 1), (54, .iadd, 1), (55, .iload_n 3, 1), (56, .iastore, 1), (57, .iload 4, 2), (59, .ireturn, 1)] : List (Nat × Instr × Nat)).all (fun e => decide (decode prog_1_method_36_code e.1 = .ok e.2)) = true := by decide +kernel
abbrev cl_157_1 : List (Nat × jm_O) := [(46, op_getA 2 4), (49, op_ic 10 2), (51, op_iload 1 1), (52, op_ibin (fun x y => x * y)), (53, op_iload 2 1), (54, op_ibin (fun x y => x + y)), (55, op_iload 3 1), (56, op_iast), (57, op_iload 4 2), (59, op_iret)]
set_option maxRecDepth 100000 in
theorem gl_157_1 : jm_gl "FrescoWall" prog_1_method_36_code 5 (Option.some Jvm.ClassFile.FieldType.int) false cl_157_1 :=
  jm_gc (pu_getA _ _) (sn_getA (jm_dc dc_157_1 0 rfl) fl_10_392 rfl) (
  jm_gc (pu_ic _ _) (sn_bipush (jm_dc dc_157_1 1 rfl) (by decide)) (
  jm_gc (pu_iload _ _) (sn_iload_n (i := 1) (jm_dc dc_157_1 2 rfl)) (
  jm_gc (pu_ibin _) (sn_imul (jm_dc dc_157_1 3 rfl)) (
  jm_gc (pu_iload _ _) (sn_iload_n (i := 2) (jm_dc dc_157_1 4 rfl)) (
  jm_gc (pu_ibin _) (sn_iadd (jm_dc dc_157_1 5 rfl)) (
  jm_gc (pu_iload _ _) (sn_iload_n (i := 3) (jm_dc dc_157_1 6 rfl)) (
  jm_gc (pu_iast) (sn_iast (jm_dc dc_157_1 7 rfl)) (
  jm_gc (pu_iload _ _) (sn_iload (jm_dc dc_157_1 8 rfl)) (
  jm_gc (pu_iret) (sn_iret (jm_dc dc_157_1 9 rfl) rfl) (
  jm_gn))))))))))
theorem dc_158_0 : ([(0, .iload_n 1, 1), (1, .iconst (-1), 1), (2, .if_icmp .eq 13, 3), (5, .iload_n 1, 1), (6, .invokestatic 389, 3), (9, .ifCond .ne 6, 3), (12, .ldc 117, 2), (14, .ireturn, 1), (15, .aload_n 0, 1), (16, .getfield 67, 3), (19, .aload_n 0, 1), (20, .getfield 28, 3), (23, .invokevirtual 395, 3), (26, .istore_n 2, 1), (27, .iload_n 1, 1), (28, .iconst (-1), 1), (29, .if_icmp .ne 5, 3), (32, .iload_n 2, 1), (33, .ireturn, 1), (34, .aload_n 0, 1), (35, .getfield 67, 3), (38, .getfield 399, 3), (41, .iload_n 1, 1), (42, .iaload, 1), (43, .ifCond .ge 8, 3)] : List (Nat × Instr × Nat)).all (fun e => decide (decode prog_1_method_37_code e.1 = .ok e.2)) = true := by decide +kernel
abbrev cl_158_0 : List (Nat × jm_O) := [(0, op_iload 1 1), (1, op_ic (-1) 1), (2, op_ceq 15), (5, op_iload 1 1), (6, op_callS 168 1), (9, op_ifne 15), (12, op_ic (-100000) 2), (14, op_iret), (15, op_aload 0 1), (16, op_getA 10 7), (19, op_aload 0 1), (20, op_getA 10 2), (23, op_callV 2 24 2), (26, op_istore 2 1), (27, op_iload 1 1), (28, op_ic (-1) 1), (29, op_cne 34), (32, op_iload 2 1), (33, op_iret), (34, op_aload 0 1), (35, op_getA 10 7), (38, op_getA 2 7), (41, op_iload 1 1), (42, op_iald 13), (43, op_ifge 51)]
set_option maxRecDepth 100000 in
theorem gl_158_0 : jm_gl "FrescoWall" prog_1_method_37_code 3 (Option.some Jvm.ClassFile.FieldType.int) false cl_158_0 :=
  jm_gc (pu_iload _ _) (sn_iload_n (i := 1) (jm_dc dc_158_0 0 rfl)) (
  jm_gc (pu_ic _ _) (sn_iconst (jm_dc dc_158_0 1 rfl) (by decide)) (
  jm_gc (pu_ceq _) (sn_ceq (jm_dc dc_158_0 2 rfl) (by decide)) (
  jm_gc (pu_iload _ _) (sn_iload_n (i := 1) (jm_dc dc_158_0 3 rfl)) (
  jm_gc (pu_callS _ _) (sn_callS (jm_dc dc_158_0 4 rfl) lk_10_389) (
  jm_gc (pu_ifne _) (sn_ifne (jm_dc dc_158_0 5 rfl) (by decide)) (
  jm_gc (pu_ic _ _) (sn_ldc (jm_dc dc_158_0 6 rfl) (kc_tb 622 (by decide +kernel))) (
  jm_gc (pu_iret) (sn_iret (jm_dc dc_158_0 7 rfl) rfl) (
  jm_gc (pu_aload _ _) (sn_aload_n (i := 0) (jm_dc dc_158_0 8 rfl)) (
  jm_gc (pu_getA _ _) (sn_getA (jm_dc dc_158_0 9 rfl) fl_10_67 rfl) (
  jm_gc (pu_aload _ _) (sn_aload_n (i := 0) (jm_dc dc_158_0 10 rfl)) (
  jm_gc (pu_getA _ _) (sn_getA (jm_dc dc_158_0 11 rfl) fl_10_28 rfl) (
  jm_gc (pu_callV _ _ _) (sn_callV (jm_dc dc_158_0 12 rfl) lk_10_395) (
  jm_gc (pu_istore _ _) (sn_istore_n (i := 2) (jm_dc dc_158_0 13 rfl)) (
  jm_gc (pu_iload _ _) (sn_iload_n (i := 1) (jm_dc dc_158_0 14 rfl)) (
  jm_gc (pu_ic _ _) (sn_iconst (jm_dc dc_158_0 15 rfl) (by decide)) (
  jm_gc (pu_cne _) (sn_cne (jm_dc dc_158_0 16 rfl) (by decide)) (
  jm_gc (pu_iload _ _) (sn_iload_n (i := 2) (jm_dc dc_158_0 17 rfl)) (
  jm_gc (pu_iret) (sn_iret (jm_dc dc_158_0 18 rfl) rfl) (
  jm_gc (pu_aload _ _) (sn_aload_n (i := 0) (jm_dc dc_158_0 19 rfl)) (
  jm_gc (pu_getA _ _) (sn_getA (jm_dc dc_158_0 20 rfl) fl_10_67 rfl) (
  jm_gc (pu_getA _ _) (sn_getA (jm_dc dc_158_0 21 rfl) fl_10_399 rfl) (
  jm_gc (pu_iload _ _) (sn_iload_n (i := 1) (jm_dc dc_158_0 22 rfl)) (
  jm_gc (pu_iald _) (sn_iald (jm_dc dc_158_0 23 rfl)) (
  jm_gc (pu_ifge _) (sn_ifge (jm_dc dc_158_0 24 rfl) (by decide)) (
  jm_gn)))))))))))))))))))))))))
theorem dc_158_1 : ([(46, .bipush (-5), 2), (48, .goto 12, 3), (51, .aload_n 0, 1), (52, .getfield 67, 3), (55, .getfield 399, 3), (58, .iload_n 1, 1), (59, .iaload, 1), (60, .ireturn, 1)] : List (Nat × Instr × Nat)).all (fun e => decide (decode prog_1_method_37_code e.1 = .ok e.2)) = true := by decide +kernel
abbrev cl_158_1 : List (Nat × jm_O) := [(46, op_ic (-5) 2), (48, op_goto 60), (51, op_aload 0 1), (52, op_getA 10 7), (55, op_getA 2 7), (58, op_iload 1 1), (59, op_iald 13), (60, op_iret)]
set_option maxRecDepth 100000 in
theorem gl_158_1 : jm_gl "FrescoWall" prog_1_method_37_code 3 (Option.some Jvm.ClassFile.FieldType.int) false cl_158_1 :=
  jm_gc (pu_ic _ _) (sn_bipush (jm_dc dc_158_1 0 rfl) (by decide)) (
  jm_gc (pu_goto _) (sn_goto (jm_dc dc_158_1 1 rfl) (by decide)) (
  jm_gc (pu_aload _ _) (sn_aload_n (i := 0) (jm_dc dc_158_1 2 rfl)) (
  jm_gc (pu_getA _ _) (sn_getA (jm_dc dc_158_1 3 rfl) fl_10_67 rfl) (
  jm_gc (pu_getA _ _) (sn_getA (jm_dc dc_158_1 4 rfl) fl_10_399 rfl) (
  jm_gc (pu_iload _ _) (sn_iload_n (i := 1) (jm_dc dc_158_1 5 rfl)) (
  jm_gc (pu_iald _) (sn_iald (jm_dc dc_158_1 6 rfl)) (
  jm_gc (pu_iret) (sn_iret (jm_dc dc_158_1 7 rfl) rfl) (
  jm_gn))))))))
theorem dc_159_0 : ([(0, .iload_n 1, 1), (1, .tableswitch 142 0 8 #[51, 59, 70, 85, 96, 107, 118, 126, 134], 51), (52, .aload_n 0, 1), (53, .getfield 28, 3), (56, .getfield 88, 3), (59, .ireturn, 1), (60, .aload_n 0, 1), (61, .getfield 35, 3), (64, .getfield 402, 3), (67, .invokestatic 405, 3), (70, .ireturn, 1), (71, .aload_n 0, 1), (72, .getfield 35, 3), (75, .aload_n 0, 1), (76, .getfield 28, 3), (79, .getfield 88, 3), (82, .invokevirtual 409, 3), (85, .ireturn, 1), (86, .aload_n 0, 1), (87, .getfield 44, 3), (90, .invokevirtual 366, 3), (93, .invokestatic 234, 3), (96, .ireturn, 1), (97, .aload_n 0, 1), (98, .getfield 44, 3)] : List (Nat × Instr × Nat)).all (fun e => decide (decode prog_1_method_38_code e.1 = .ok e.2)) = true := by decide +kernel
abbrev cl_159_0 : List (Nat × jm_O) := [(0, op_iload 1 1), (1, op_sw 143 [(0, 52), (1, 60), (2, 71), (3, 86), (4, 97), (5, 108), (6, 119), (7, 127), (8, 135)]), (52, op_aload 0 1), (53, op_getA 10 2), (56, op_getI 3 1), (59, op_iret), (60, op_aload 0 1), (61, op_getA 10 3), (64, op_getJ 4 5), (67, op_callS 320 1), (70, op_iret), (71, op_aload 0 1), (72, op_getA 10 3), (75, op_aload 0 1), (76, op_getA 10 2), (79, op_getI 3 1), (82, op_callV 4 51 2), (85, op_iret), (86, op_aload 0 1), (87, op_getA 10 4), (90, op_callV 9 103 1), (93, op_callS 317 1), (96, op_iret), (97, op_aload 0 1), (98, op_getA 10 4)]
set_option maxRecDepth 100000 in
theorem gl_159_0 : jm_gl "FrescoWall" prog_1_method_38_code 2 (Option.some Jvm.ClassFile.FieldType.int) false cl_159_0 :=
  jm_gc (pu_iload _ _) (sn_iload_n (i := 1) (jm_dc dc_159_0 0 rfl)) (
  jm_gc (pu_sw _ _) (sn_tsw (jm_dc dc_159_0 1 rfl) (by decide) (by decide) (by decide)) (
  jm_gc (pu_aload _ _) (sn_aload_n (i := 0) (jm_dc dc_159_0 2 rfl)) (
  jm_gc (pu_getA _ _) (sn_getA (jm_dc dc_159_0 3 rfl) fl_10_28 rfl) (
  jm_gc (pu_getI _ _) (sn_getI (jm_dc dc_159_0 4 rfl) fl_10_88 (Or.inl rfl)) (
  jm_gc (pu_iret) (sn_iret (jm_dc dc_159_0 5 rfl) rfl) (
  jm_gc (pu_aload _ _) (sn_aload_n (i := 0) (jm_dc dc_159_0 6 rfl)) (
  jm_gc (pu_getA _ _) (sn_getA (jm_dc dc_159_0 7 rfl) fl_10_35 rfl) (
  jm_gc (pu_getJ _ _) (sn_getJ (jm_dc dc_159_0 8 rfl) fl_10_402 rfl) (
  jm_gc (pu_callS _ _) (sn_callS (jm_dc dc_159_0 9 rfl) lk_10_405) (
  jm_gc (pu_iret) (sn_iret (jm_dc dc_159_0 10 rfl) rfl) (
  jm_gc (pu_aload _ _) (sn_aload_n (i := 0) (jm_dc dc_159_0 11 rfl)) (
  jm_gc (pu_getA _ _) (sn_getA (jm_dc dc_159_0 12 rfl) fl_10_35 rfl) (
  jm_gc (pu_aload _ _) (sn_aload_n (i := 0) (jm_dc dc_159_0 13 rfl)) (
  jm_gc (pu_getA _ _) (sn_getA (jm_dc dc_159_0 14 rfl) fl_10_28 rfl) (
  jm_gc (pu_getI _ _) (sn_getI (jm_dc dc_159_0 15 rfl) fl_10_88 (Or.inl rfl)) (
  jm_gc (pu_callV _ _ _) (sn_callV (jm_dc dc_159_0 16 rfl) lk_10_409) (
  jm_gc (pu_iret) (sn_iret (jm_dc dc_159_0 17 rfl) rfl) (
  jm_gc (pu_aload _ _) (sn_aload_n (i := 0) (jm_dc dc_159_0 18 rfl)) (
  jm_gc (pu_getA _ _) (sn_getA (jm_dc dc_159_0 19 rfl) fl_10_44 rfl) (
  jm_gc (pu_callV _ _ _) (sn_callV (jm_dc dc_159_0 20 rfl) lk_10_366) (
  jm_gc (pu_callS _ _) (sn_callS (jm_dc dc_159_0 21 rfl) lk_10_234) (
  jm_gc (pu_iret) (sn_iret (jm_dc dc_159_0 22 rfl) rfl) (
  jm_gc (pu_aload _ _) (sn_aload_n (i := 0) (jm_dc dc_159_0 23 rfl)) (
  jm_gc (pu_getA _ _) (sn_getA (jm_dc dc_159_0 24 rfl) fl_10_44 rfl) (
  jm_gn)))))))))))))))))))))))))
theorem dc_159_1 : ([(101, .getfield 412, 3), (104, .invokestatic 234, 3), (107, .ireturn, 1), (108, .aload_n 0, 1), (109, .getfield 44, 3), (112, .invokevirtual 363, 3), (115, .invokestatic 234, 3), (118, .ireturn, 1), (119, .aload_n 0, 1), (120, .getfield 67, 3), (123, .getfield 385, 3), (126, .ireturn, 1), (127, .aload_n 0, 1), (128, .getfield 10, 3), (131, .getfield 80, 3), (134, .ireturn, 1), (135, .aload_n 0, 1), (136, .getfield 35, 3), (139, .getfield 209, 3), (142, .ireturn, 1), (143, .iconst (-1), 1), (144, .ireturn, 1)] : List (Nat × Instr × Nat)).all (fun e => decide (decode prog_1_method_38_code e.1 = .ok e.2)) = true := by decide +kernel
abbrev cl_159_1 : List (Nat × jm_O) := [(101, op_getI 9 3), (104, op_callS 317 1), (107, op_iret), (108, op_aload 0 1), (109, op_getA 10 4), (112, op_callV 9 120 1), (115, op_callS 317 1), (118, op_iret), (119, op_aload 0 1), (120, op_getA 10 7), (123, op_getI 2 0), (126, op_iret), (127, op_aload 0 1), (128, op_getA 10 0), (131, op_getI 8 0), (134, op_iret), (135, op_aload 0 1), (136, op_getA 10 3), (139, op_getI 4 4), (142, op_iret), (143, op_ic (-1) 1), (144, op_iret)]
set_option maxRecDepth 100000 in
theorem gl_159_1 : jm_gl "FrescoWall" prog_1_method_38_code 2 (Option.some Jvm.ClassFile.FieldType.int) false cl_159_1 :=
  jm_gc (pu_getI _ _) (sn_getI (jm_dc dc_159_1 0 rfl) fl_10_412 (Or.inl rfl)) (
  jm_gc (pu_callS _ _) (sn_callS (jm_dc dc_159_1 1 rfl) lk_10_234) (
  jm_gc (pu_iret) (sn_iret (jm_dc dc_159_1 2 rfl) rfl) (
  jm_gc (pu_aload _ _) (sn_aload_n (i := 0) (jm_dc dc_159_1 3 rfl)) (
  jm_gc (pu_getA _ _) (sn_getA (jm_dc dc_159_1 4 rfl) fl_10_44 rfl) (
  jm_gc (pu_callV _ _ _) (sn_callV (jm_dc dc_159_1 5 rfl) lk_10_363) (
  jm_gc (pu_callS _ _) (sn_callS (jm_dc dc_159_1 6 rfl) lk_10_234) (
  jm_gc (pu_iret) (sn_iret (jm_dc dc_159_1 7 rfl) rfl) (
  jm_gc (pu_aload _ _) (sn_aload_n (i := 0) (jm_dc dc_159_1 8 rfl)) (
  jm_gc (pu_getA _ _) (sn_getA (jm_dc dc_159_1 9 rfl) fl_10_67 rfl) (
  jm_gc (pu_getI _ _) (sn_getI (jm_dc dc_159_1 10 rfl) fl_10_385 (Or.inl rfl)) (
  jm_gc (pu_iret) (sn_iret (jm_dc dc_159_1 11 rfl) rfl) (
  jm_gc (pu_aload _ _) (sn_aload_n (i := 0) (jm_dc dc_159_1 12 rfl)) (
  jm_gc (pu_getA _ _) (sn_getA (jm_dc dc_159_1 13 rfl) fl_10_10 rfl) (
  jm_gc (pu_getI _ _) (sn_getI (jm_dc dc_159_1 14 rfl) fl_10_80 (Or.inl rfl)) (
  jm_gc (pu_iret) (sn_iret (jm_dc dc_159_1 15 rfl) rfl) (
  jm_gc (pu_aload _ _) (sn_aload_n (i := 0) (jm_dc dc_159_1 16 rfl)) (
  jm_gc (pu_getA _ _) (sn_getA (jm_dc dc_159_1 17 rfl) fl_10_35 rfl) (
  jm_gc (pu_getI _ _) (sn_getI (jm_dc dc_159_1 18 rfl) fl_10_209 (Or.inl rfl)) (
  jm_gc (pu_iret) (sn_iret (jm_dc dc_159_1 19 rfl) rfl) (
  jm_gc (pu_ic _ _) (sn_iconst (jm_dc dc_159_1 20 rfl) (by decide)) (
  jm_gc (pu_iret) (sn_iret (jm_dc dc_159_1 21 rfl) rfl) (
  jm_gn))))))))))))))))))))))
theorem dc_160_0 : ([(0, .iload_n 1, 1), (1, .ifCond .lt 18, 3), (4, .iload_n 1, 1), (5, .aload_n 0, 1), (6, .getfield 28, 3), (9, .getfield 88, 3), (12, .if_icmp .ge 7, 3), (15, .iconst 1, 1), (16, .goto 4, 3), (19, .iconst 0, 1), (20, .ireturn, 1)] : List (Nat × Instr × Nat)).all (fun e => decide (decode prog_1_method_39_code e.1 = .ok e.2)) = true := by decide +kernel
abbrev cl_160_0 : List (Nat × jm_O) := [(0, op_iload 1 1), (1, op_iflt 19), (4, op_iload 1 1), (5, op_aload 0 1), (6, op_getA 10 2), (9, op_getI 3 1), (12, op_cge 19), (15, op_ic 1 1), (16, op_goto 20), (19, op_ic 0 1), (20, op_zret)]
set_option maxRecDepth 100000 in
theorem gl_160_0 : jm_gl "FrescoWall" prog_1_method_39_code 2 (Option.some Jvm.ClassFile.FieldType.boolean) false cl_160_0 :=
  jm_gc (pu_iload _ _) (sn_iload_n (i := 1) (jm_dc dc_160_0 0 rfl)) (
  jm_gc (pu_iflt _) (sn_iflt (jm_dc dc_160_0 1 rfl) (by decide)) (
  jm_gc (pu_iload _ _) (sn_iload_n (i := 1) (jm_dc dc_160_0 2 rfl)) (
  jm_gc (pu_aload _ _) (sn_aload_n (i := 0) (jm_dc dc_160_0 3 rfl)) (
  jm_gc (pu_getA _ _) (sn_getA (jm_dc dc_160_0 4 rfl) fl_10_28 rfl) (
  jm_gc (pu_getI _ _) (sn_getI (jm_dc dc_160_0 5 rfl) fl_10_88 (Or.inl rfl)) (
  jm_gc (pu_cge _) (sn_cge (jm_dc dc_160_0 6 rfl) (by decide)) (
  jm_gc (pu_ic _ _) (sn_iconst (jm_dc dc_160_0 7 rfl) (by decide)) (
  jm_gc (pu_goto _) (sn_goto (jm_dc dc_160_0 8 rfl) (by decide)) (
  jm_gc (pu_ic _ _) (sn_iconst (jm_dc dc_160_0 9 rfl) (by decide)) (
  jm_gc (pu_zret) (sn_zret (jm_dc dc_160_0 10 rfl) rfl) (
  jm_gn)))))))))))
theorem dc_161_0 : ([(0, .aload_n 0, 1), (1, .iload_n 1, 1), (2, .invokevirtual 113, 3), (5, .ifCond .eq 27, 3), (8, .iload_n 2, 1), (9, .ifCond .lt 23, 3), (12, .iload_n 2, 1), (13, .aload_n 0, 1), (14, .getfield 28, 3), (17, .getfield 118, 3), (20, .iload_n 1, 1), (21, .aaload, 1), (22, .getfield 122, 3), (25, .if_icmp .ge 7, 3), (28, .iconst 1, 1), (29, .goto 4, 3), (32, .iconst 0, 1), (33, .ireturn, 1)] : List (Nat × Instr × Nat)).all (fun e => decide (decode prog_1_method_40_code e.1 = .ok e.2)) = true := by decide +kernel
abbrev cl_161_0 : List (Nat × jm_O) := [(0, op_aload 0 1), (1, op_iload 1 1), (2, op_callV 10 160 2), (5, op_ifeq 32), (8, op_iload 2 1), (9, op_iflt 32), (12, op_iload 2 1), (13, op_aload 0 1), (14, op_getA 10 2), (17, op_getA 3 0), (20, op_iload 1 1), (21, op_aald), (22, op_getI 1 3), (25, op_cge 32), (28, op_ic 1 1), (29, op_goto 33), (32, op_ic 0 1), (33, op_zret)]
set_option maxRecDepth 100000 in
theorem gl_161_0 : jm_gl "FrescoWall" prog_1_method_40_code 3 (Option.some Jvm.ClassFile.FieldType.boolean) false cl_161_0 :=
  jm_gc (pu_aload _ _) (sn_aload_n (i := 0) (jm_dc dc_161_0 0 rfl)) (
  jm_gc (pu_iload _ _) (sn_iload_n (i := 1) (jm_dc dc_161_0 1 rfl)) (
  jm_gc (pu_callV _ _ _) (sn_callV (jm_dc dc_161_0 2 rfl) lk_10_113) (
  jm_gc (pu_ifeq _) (sn_ifeq (jm_dc dc_161_0 3 rfl) (by decide)) (
  jm_gc (pu_iload _ _) (sn_iload_n (i := 2) (jm_dc dc_161_0 4 rfl)) (
  jm_gc (pu_iflt _) (sn_iflt (jm_dc dc_161_0 5 rfl) (by decide)) (
  jm_gc (pu_iload _ _) (sn_iload_n (i := 2) (jm_dc dc_161_0 6 rfl)) (
  jm_gc (pu_aload _ _) (sn_aload_n (i := 0) (jm_dc dc_161_0 7 rfl)) (
  jm_gc (pu_getA _ _) (sn_getA (jm_dc dc_161_0 8 rfl) fl_10_28 rfl) (
  jm_gc (pu_getA _ _) (sn_getA (jm_dc dc_161_0 9 rfl) fl_10_118 rfl) (
  jm_gc (pu_iload _ _) (sn_iload_n (i := 1) (jm_dc dc_161_0 10 rfl)) (
  jm_gc (pu_aald) (sn_aald (jm_dc dc_161_0 11 rfl)) (
  jm_gc (pu_getI _ _) (sn_getI (jm_dc dc_161_0 12 rfl) fl_10_122 (Or.inl rfl)) (
  jm_gc (pu_cge _) (sn_cge (jm_dc dc_161_0 13 rfl) (by decide)) (
  jm_gc (pu_ic _ _) (sn_iconst (jm_dc dc_161_0 14 rfl) (by decide)) (
  jm_gc (pu_goto _) (sn_goto (jm_dc dc_161_0 15 rfl) (by decide)) (
  jm_gc (pu_ic _ _) (sn_iconst (jm_dc dc_161_0 16 rfl) (by decide)) (
  jm_gc (pu_zret) (sn_zret (jm_dc dc_161_0 17 rfl) rfl) (
  jm_gn))))))))))))))))))
theorem dc_162_0 : ([(0, .aload_n 0, 1), (1, .getfield 28, 3), (4, .aload_n 0, 1), (5, .getfield 35, 3), (8, .getfield 228, 3), (11, .iload_n 1, 1), (12, .iaload, 1), (13, .aload_n 0, 1), (14, .getfield 35, 3), (17, .getfield 240, 3), (20, .iload_n 1, 1), (21, .iaload, 1), (22, .aload_n 0, 1), (23, .getfield 35, 3), (26, .getfield 231, 3), (29, .iload_n 1, 1), (30, .iaload, 1), (31, .aload_n 0, 1), (32, .getfield 35, 3), (35, .getfield 243, 3), (38, .iload_n 1, 1), (39, .iaload, 1), (40, .invokevirtual 415, 3), (43, .ireturn, 1)] : List (Nat × Instr × Nat)).all (fun e => decide (decode prog_1_method_41_code e.1 = .ok e.2)) = true := by decide +kernel
abbrev cl_162_0 : List (Nat × jm_O) := [(0, op_aload 0 1), (1, op_getA 10 2), (4, op_aload 0 1), (5, op_getA 10 3), (8, op_getA 4 0), (11, op_iload 1 1), (12, op_iald 13), (13, op_aload 0 1), (14, op_getA 10 3), (17, op_getA 4 1), (20, op_iload 1 1), (21, op_iald 13), (22, op_aload 0 1), (23, op_getA 10 3), (26, op_getA 4 2), (29, op_iload 1 1), (30, op_iald 13), (31, op_aload 0 1), (32, op_getA 10 3), (35, op_getA 4 3), (38, op_iload 1 1), (39, op_iald 13), (40, op_callV 3 38 5), (43, op_zret)]
set_option maxRecDepth 100000 in
theorem gl_162_0 : jm_gl "FrescoWall" prog_1_method_41_code 2 (Option.some Jvm.ClassFile.FieldType.boolean) false cl_162_0 :=
  jm_gc (pu_aload _ _) (sn_aload_n (i := 0) (jm_dc dc_162_0 0 rfl)) (
  jm_gc (pu_getA _ _) (sn_getA (jm_dc dc_162_0 1 rfl) fl_10_28 rfl) (
  jm_gc (pu_aload _ _) (sn_aload_n (i := 0) (jm_dc dc_162_0 2 rfl)) (
  jm_gc (pu_getA _ _) (sn_getA (jm_dc dc_162_0 3 rfl) fl_10_35 rfl) (
  jm_gc (pu_getA _ _) (sn_getA (jm_dc dc_162_0 4 rfl) fl_10_228 rfl) (
  jm_gc (pu_iload _ _) (sn_iload_n (i := 1) (jm_dc dc_162_0 5 rfl)) (
  jm_gc (pu_iald _) (sn_iald (jm_dc dc_162_0 6 rfl)) (
  jm_gc (pu_aload _ _) (sn_aload_n (i := 0) (jm_dc dc_162_0 7 rfl)) (
  jm_gc (pu_getA _ _) (sn_getA (jm_dc dc_162_0 8 rfl) fl_10_35 rfl) (
  jm_gc (pu_getA _ _) (sn_getA (jm_dc dc_162_0 9 rfl) fl_10_240 rfl) (
  jm_gc (pu_iload _ _) (sn_iload_n (i := 1) (jm_dc dc_162_0 10 rfl)) (
  jm_gc (pu_iald _) (sn_iald (jm_dc dc_162_0 11 rfl)) (
  jm_gc (pu_aload _ _) (sn_aload_n (i := 0) (jm_dc dc_162_0 12 rfl)) (
  jm_gc (pu_getA _ _) (sn_getA (jm_dc dc_162_0 13 rfl) fl_10_35 rfl) (
  jm_gc (pu_getA _ _) (sn_getA (jm_dc dc_162_0 14 rfl) fl_10_231 rfl) (
  jm_gc (pu_iload _ _) (sn_iload_n (i := 1) (jm_dc dc_162_0 15 rfl)) (
  jm_gc (pu_iald _) (sn_iald (jm_dc dc_162_0 16 rfl)) (
  jm_gc (pu_aload _ _) (sn_aload_n (i := 0) (jm_dc dc_162_0 17 rfl)) (
  jm_gc (pu_getA _ _) (sn_getA (jm_dc dc_162_0 18 rfl) fl_10_35 rfl) (
  jm_gc (pu_getA _ _) (sn_getA (jm_dc dc_162_0 19 rfl) fl_10_243 rfl) (
  jm_gc (pu_iload _ _) (sn_iload_n (i := 1) (jm_dc dc_162_0 20 rfl)) (
  jm_gc (pu_iald _) (sn_iald (jm_dc dc_162_0 21 rfl)) (
  jm_gc (pu_callV _ _ _) (sn_callV (jm_dc dc_162_0 22 rfl) lk_10_415) (
  jm_gc (pu_zret) (sn_zret (jm_dc dc_162_0 23 rfl) rfl) (
  jm_gn))))))))))))))))))))))))
theorem dc_163_0 : ([(0, .aload_n 0, 1), (1, .iload_n 1, 1), (2, .iload_n 2, 1), (3, .invokevirtual 143, 3), (6, .ifCond .eq 13, 3), (9, .aload_n 0, 1), (10, .iload_n 3, 1), (11, .iload 4, 2), (13, .invokevirtual 143, 3), (16, .ifCond .ne 5, 3), (19, .iconst (-1), 1), (20, .ireturn, 1), (21, .iload_n 1, 1), (22, .iload_n 3, 1), (23, .if_icmp .ne 8, 3), (26, .bipush (-2), 2), (28, .goto 4, 3), (31, .iconst 0, 1), (32, .ireturn, 1)] : List (Nat × Instr × Nat)).all (fun e => decide (decode prog_1_method_42_code e.1 = .ok e.2)) = true := by decide +kernel
abbrev cl_163_0 : List (Nat × jm_O) := [(0, op_aload 0 1), (1, op_iload 1 1), (2, op_iload 2 1), (3, op_callV 10 161 3), (6, op_ifeq 19), (9, op_aload 0 1), (10, op_iload 3 1), (11, op_iload 4 2), (13, op_callV 10 161 3), (16, op_ifne 21), (19, op_ic (-1) 1), (20, op_iret), (21, op_iload 1 1), (22, op_iload 3 1), (23, op_cne 31), (26, op_ic (-2) 2), (28, op_goto 32), (31, op_ic 0 1), (32, op_iret)]
set_option maxRecDepth 100000 in
theorem gl_163_0 : jm_gl "FrescoWall" prog_1_method_42_code 5 (Option.some Jvm.ClassFile.FieldType.int) false cl_163_0 :=
  jm_gc (pu_aload _ _) (sn_aload_n (i := 0) (jm_dc dc_163_0 0 rfl)) (
  jm_gc (pu_iload _ _) (sn_iload_n (i := 1) (jm_dc dc_163_0 1 rfl)) (
  jm_gc (pu_iload _ _) (sn_iload_n (i := 2) (jm_dc dc_163_0 2 rfl)) (
  jm_gc (pu_callV _ _ _) (sn_callV (jm_dc dc_163_0 3 rfl) lk_10_143) (
  jm_gc (pu_ifeq _) (sn_ifeq (jm_dc dc_163_0 4 rfl) (by decide)) (
  jm_gc (pu_aload _ _) (sn_aload_n (i := 0) (jm_dc dc_163_0 5 rfl)) (
  jm_gc (pu_iload _ _) (sn_iload_n (i := 3) (jm_dc dc_163_0 6 rfl)) (
  jm_gc (pu_iload _ _) (sn_iload (jm_dc dc_163_0 7 rfl)) (
  jm_gc (pu_callV _ _ _) (sn_callV (jm_dc dc_163_0 8 rfl) lk_10_143) (
  jm_gc (pu_ifne _) (sn_ifne (jm_dc dc_163_0 9 rfl) (by decide)) (
  jm_gc (pu_ic _ _) (sn_iconst (jm_dc dc_163_0 10 rfl) (by decide)) (
  jm_gc (pu_iret) (sn_iret (jm_dc dc_163_0 11 rfl) rfl) (
  jm_gc (pu_iload _ _) (sn_iload_n (i := 1) (jm_dc dc_163_0 12 rfl)) (
  jm_gc (pu_iload _ _) (sn_iload_n (i := 3) (jm_dc dc_163_0 13 rfl)) (
  jm_gc (pu_cne _) (sn_cne (jm_dc dc_163_0 14 rfl) (by decide)) (
  jm_gc (pu_ic _ _) (sn_bipush (jm_dc dc_163_0 15 rfl) (by decide)) (
  jm_gc (pu_goto _) (sn_goto (jm_dc dc_163_0 16 rfl) (by decide)) (
  jm_gc (pu_ic _ _) (sn_iconst (jm_dc dc_163_0 17 rfl) (by decide)) (
  jm_gc (pu_iret) (sn_iret (jm_dc dc_163_0 18 rfl) rfl) (
  jm_gn)))))))))))))))))))
theorem dc_164_0 : ([(0, .iload_n 0, 1), (1, .ifCond .lt 13, 3), (4, .iload_n 0, 1), (5, .bipush 9, 2), (7, .if_icmp .gt 7, 3), (10, .iconst 1, 1), (11, .goto 4, 3), (14, .iconst 0, 1), (15, .ireturn, 1)] : List (Nat × Instr × Nat)).all (fun e => decide (decode prog_1_method_43_code e.1 = .ok e.2)) = true := by decide +kernel
abbrev cl_164_0 : List (Nat × jm_O) := [(0, op_iload 0 1), (1, op_iflt 14), (4, op_iload 0 1), (5, op_ic 9 2), (7, op_cgt 14), (10, op_ic 1 1), (11, op_goto 15), (14, op_ic 0 1), (15, op_zret)]
set_option maxRecDepth 100000 in
theorem gl_164_0 : jm_gl "FrescoWall" prog_1_method_43_code 1 (Option.some Jvm.ClassFile.FieldType.boolean) false cl_164_0 :=
  jm_gc (pu_iload _ _) (sn_iload_n (i := 0) (jm_dc dc_164_0 0 rfl)) (
  jm_gc (pu_iflt _) (sn_iflt (jm_dc dc_164_0 1 rfl) (by decide)) (
  jm_gc (pu_iload _ _) (sn_iload_n (i := 0) (jm_dc dc_164_0 2 rfl)) (
  jm_gc (pu_ic _ _) (sn_bipush (jm_dc dc_164_0 3 rfl) (by decide)) (
  jm_gc (pu_cgt _) (sn_cgt (jm_dc dc_164_0 4 rfl) (by decide)) (
  jm_gc (pu_ic _ _) (sn_iconst (jm_dc dc_164_0 5 rfl) (by decide)) (
  jm_gc (pu_goto _) (sn_goto (jm_dc dc_164_0 6 rfl) (by decide)) (
  jm_gc (pu_ic _ _) (sn_iconst (jm_dc dc_164_0 7 rfl) (by decide)) (
  jm_gc (pu_zret) (sn_zret (jm_dc dc_164_0 8 rfl) rfl) (
  jm_gn)))))))))
theorem dc_165_0 : ([(0, .iload_n 0, 1), (1, .sipush (-500), 3), (4, .if_icmp .lt 14, 3), (7, .iload_n 0, 1), (8, .sipush 500, 3), (11, .if_icmp .gt 7, 3), (14, .iconst 1, 1), (15, .goto 4, 3), (18, .iconst 0, 1), (19, .ireturn, 1)] : List (Nat × Instr × Nat)).all (fun e => decide (decode prog_1_method_44_code e.1 = .ok e.2)) = true := by decide +kernel
abbrev cl_165_0 : List (Nat × jm_O) := [(0, op_iload 0 1), (1, op_ic (-500) 3), (4, op_clt 18), (7, op_iload 0 1), (8, op_ic 500 3), (11, op_cgt 18), (14, op_ic 1 1), (15, op_goto 19), (18, op_ic 0 1), (19, op_zret)]
set_option maxRecDepth 100000 in
theorem gl_165_0 : jm_gl "FrescoWall" prog_1_method_44_code 1 (Option.some Jvm.ClassFile.FieldType.boolean) false cl_165_0 :=
  jm_gc (pu_iload _ _) (sn_iload_n (i := 0) (jm_dc dc_165_0 0 rfl)) (
  jm_gc (pu_ic _ _) (sn_sipush (jm_dc dc_165_0 1 rfl) (by decide)) (
  jm_gc (pu_clt _) (sn_clt (jm_dc dc_165_0 2 rfl) (by decide)) (
  jm_gc (pu_iload _ _) (sn_iload_n (i := 0) (jm_dc dc_165_0 3 rfl)) (
  jm_gc (pu_ic _ _) (sn_sipush (jm_dc dc_165_0 4 rfl) (by decide)) (
  jm_gc (pu_cgt _) (sn_cgt (jm_dc dc_165_0 5 rfl) (by decide)) (
  jm_gc (pu_ic _ _) (sn_iconst (jm_dc dc_165_0 6 rfl) (by decide)) (
  jm_gc (pu_goto _) (sn_goto (jm_dc dc_165_0 7 rfl) (by decide)) (
  jm_gc (pu_ic _ _) (sn_iconst (jm_dc dc_165_0 8 rfl) (by decide)) (
  jm_gc (pu_zret) (sn_zret (jm_dc dc_165_0 9 rfl) rfl) (
  jm_gn))))))))))
theorem dc_166_0 : ([(0, .iload_n 0, 1), (1, .ifCond .lt 26, 3), (4, .iload_n 0, 1), (5, .iconst 3, 1), (6, .if_icmp .gt 21, 3), (9, .iload_n 1, 1), (10, .invokestatic 309, 3), (13, .ifCond .eq 14, 3), (16, .iload_n 2, 1), (17, .invokestatic 309, 3), (20, .ifCond .eq 7, 3), (23, .iconst 1, 1), (24, .goto 4, 3), (27, .iconst 0, 1), (28, .ireturn, 1)] : List (Nat × Instr × Nat)).all (fun e => decide (decode prog_1_method_45_code e.1 = .ok e.2)) = true := by decide +kernel
abbrev cl_166_0 : List (Nat × jm_O) := [(0, op_iload 0 1), (1, op_iflt 27), (4, op_iload 0 1), (5, op_ic 3 1), (6, op_cgt 27), (9, op_iload 1 1), (10, op_callS 165 1), (13, op_ifeq 27), (16, op_iload 2 1), (17, op_callS 165 1), (20, op_ifeq 27), (23, op_ic 1 1), (24, op_goto 28), (27, op_ic 0 1), (28, op_zret)]
set_option maxRecDepth 100000 in
theorem gl_166_0 : jm_gl "FrescoWall" prog_1_method_45_code 3 (Option.some Jvm.ClassFile.FieldType.boolean) false cl_166_0 :=
  jm_gc (pu_iload _ _) (sn_iload_n (i := 0) (jm_dc dc_166_0 0 rfl)) (
  jm_gc (pu_iflt _) (sn_iflt (jm_dc dc_166_0 1 rfl) (by decide)) (
  jm_gc (pu_iload _ _) (sn_iload_n (i := 0) (jm_dc dc_166_0 2 rfl)) (
  jm_gc (pu_ic _ _) (sn_iconst (jm_dc dc_166_0 3 rfl) (by decide)) (
  jm_gc (pu_cgt _) (sn_cgt (jm_dc dc_166_0 4 rfl) (by decide)) (
  jm_gc (pu_iload _ _) (sn_iload_n (i := 1) (jm_dc dc_166_0 5 rfl)) (
  jm_gc (pu_callS _ _) (sn_callS (jm_dc dc_166_0 6 rfl) lk_10_309) (
  jm_gc (pu_ifeq _) (sn_ifeq (jm_dc dc_166_0 7 rfl) (by decide)) (
  jm_gc (pu_iload _ _) (sn_iload_n (i := 2) (jm_dc dc_166_0 8 rfl)) (
  jm_gc (pu_callS _ _) (sn_callS (jm_dc dc_166_0 9 rfl) lk_10_309) (
  jm_gc (pu_ifeq _) (sn_ifeq (jm_dc dc_166_0 10 rfl) (by decide)) (
  jm_gc (pu_ic _ _) (sn_iconst (jm_dc dc_166_0 11 rfl) (by decide)) (
  jm_gc (pu_goto _) (sn_goto (jm_dc dc_166_0 12 rfl) (by decide)) (
  jm_gc (pu_ic _ _) (sn_iconst (jm_dc dc_166_0 13 rfl) (by decide)) (
  jm_gc (pu_zret) (sn_zret (jm_dc dc_166_0 14 rfl) rfl) (
  jm_gn)))))))))))))))
theorem dc_167_0 : ([(0, .iload_n 0, 1), (1, .ifCond .lt 14, 3), (4, .iload_n 0, 1), (5, .sipush 999, 3), (8, .if_icmp .gt 7, 3), (11, .iconst 1, 1), (12, .goto 4, 3), (15, .iconst 0, 1), (16, .ireturn, 1)] : List (Nat × Instr × Nat)).all (fun e => decide (decode prog_1_method_46_code e.1 = .ok e.2)) = true := by decide +kernel
abbrev cl_167_0 : List (Nat × jm_O) := [(0, op_iload 0 1), (1, op_iflt 15), (4, op_iload 0 1), (5, op_ic 999 3), (8, op_cgt 15), (11, op_ic 1 1), (12, op_goto 16), (15, op_ic 0 1), (16, op_zret)]
set_option maxRecDepth 100000 in
theorem gl_167_0 : jm_gl "FrescoWall" prog_1_method_46_code 1 (Option.some Jvm.ClassFile.FieldType.boolean) false cl_167_0 :=
  jm_gc (pu_iload _ _) (sn_iload_n (i := 0) (jm_dc dc_167_0 0 rfl)) (
  jm_gc (pu_iflt _) (sn_iflt (jm_dc dc_167_0 1 rfl) (by decide)) (
  jm_gc (pu_iload _ _) (sn_iload_n (i := 0) (jm_dc dc_167_0 2 rfl)) (
  jm_gc (pu_ic _ _) (sn_sipush (jm_dc dc_167_0 3 rfl) (by decide)) (
  jm_gc (pu_cgt _) (sn_cgt (jm_dc dc_167_0 4 rfl) (by decide)) (
  jm_gc (pu_ic _ _) (sn_iconst (jm_dc dc_167_0 5 rfl) (by decide)) (
  jm_gc (pu_goto _) (sn_goto (jm_dc dc_167_0 6 rfl) (by decide)) (
  jm_gc (pu_ic _ _) (sn_iconst (jm_dc dc_167_0 7 rfl) (by decide)) (
  jm_gc (pu_zret) (sn_zret (jm_dc dc_167_0 8 rfl) rfl) (
  jm_gn)))))))))
theorem dc_168_0 : ([(0, .iload_n 0, 1), (1, .ifCond .lt 13, 3), (4, .iload_n 0, 1), (5, .bipush 6, 2), (7, .if_icmp .ge 7, 3), (10, .iconst 1, 1), (11, .goto 4, 3), (14, .iconst 0, 1), (15, .ireturn, 1)] : List (Nat × Instr × Nat)).all (fun e => decide (decode prog_1_method_47_code e.1 = .ok e.2)) = true := by decide +kernel
abbrev cl_168_0 : List (Nat × jm_O) := [(0, op_iload 0 1), (1, op_iflt 14), (4, op_iload 0 1), (5, op_ic 6 2), (7, op_cge 14), (10, op_ic 1 1), (11, op_goto 15), (14, op_ic 0 1), (15, op_zret)]
set_option maxRecDepth 100000 in
theorem gl_168_0 : jm_gl "FrescoWall" prog_1_method_47_code 1 (Option.some Jvm.ClassFile.FieldType.boolean) false cl_168_0 :=
  jm_gc (pu_iload _ _) (sn_iload_n (i := 0) (jm_dc dc_168_0 0 rfl)) (
  jm_gc (pu_iflt _) (sn_iflt (jm_dc dc_168_0 1 rfl) (by decide)) (
  jm_gc (pu_iload _ _) (sn_iload_n (i := 0) (jm_dc dc_168_0 2 rfl)) (
  jm_gc (pu_ic _ _) (sn_bipush (jm_dc dc_168_0 3 rfl) (by decide)) (
  jm_gc (pu_cge _) (sn_cge (jm_dc dc_168_0 4 rfl) (by decide)) (
  jm_gc (pu_ic _ _) (sn_iconst (jm_dc dc_168_0 5 rfl) (by decide)) (
  jm_gc (pu_goto _) (sn_goto (jm_dc dc_168_0 6 rfl) (by decide)) (
  jm_gc (pu_ic _ _) (sn_iconst (jm_dc dc_168_0 7 rfl) (by decide)) (
  jm_gc (pu_zret) (sn_zret (jm_dc dc_168_0 8 rfl) rfl) (
  jm_gn)))))))))
theorem dc_169_0 : ([(0, .iload_n 2, 1), (1, .tableswitch 42 0 2 #[27, 32, 37], 27), (28, .lload_n 0, 1), (29, .invokestatic 182, 3), (32, .ireturn, 1), (33, .lload_n 0, 1), (34, .invokestatic 419, 3), (37, .ireturn, 1), (38, .lload_n 0, 1), (39, .invokestatic 422, 3), (42, .ireturn, 1), (43, .ldc 117, 2), (45, .ireturn, 1)] : List (Nat × Instr × Nat)).all (fun e => decide (decode prog_1_method_48_code e.1 = .ok e.2)) = true := by decide +kernel
abbrev cl_169_0 : List (Nat × jm_O) := [(0, op_iload 2 1), (1, op_sw 43 [(0, 28), (1, 33), (2, 38)]), (28, op_lload 0 1), (29, op_callS 306 1), (32, op_iret), (33, op_lload 0 1), (34, op_callS 307 1), (37, op_iret), (38, op_lload 0 1), (39, op_callS 308 1), (42, op_iret), (43, op_ic (-100000) 2), (45, op_iret)]
set_option maxRecDepth 100000 in
theorem gl_169_0 : jm_gl "FrescoWall" prog_1_method_48_code 3 (Option.some Jvm.ClassFile.FieldType.int) false cl_169_0 :=
  jm_gc (pu_iload _ _) (sn_iload_n (i := 2) (jm_dc dc_169_0 0 rfl)) (
  jm_gc (pu_sw _ _) (sn_tsw (jm_dc dc_169_0 1 rfl) (by decide) (by decide) (by decide)) (
  jm_gc (pu_lload _ _) (sn_lload_n (i := 0) (jm_dc dc_169_0 2 rfl)) (
  jm_gc (pu_callS _ _) (sn_callS (jm_dc dc_169_0 3 rfl) lk_10_182) (
  jm_gc (pu_iret) (sn_iret (jm_dc dc_169_0 4 rfl) rfl) (
  jm_gc (pu_lload _ _) (sn_lload_n (i := 0) (jm_dc dc_169_0 5 rfl)) (
  jm_gc (pu_callS _ _) (sn_callS (jm_dc dc_169_0 6 rfl) lk_10_419) (
  jm_gc (pu_iret) (sn_iret (jm_dc dc_169_0 7 rfl) rfl) (
  jm_gc (pu_lload _ _) (sn_lload_n (i := 0) (jm_dc dc_169_0 8 rfl)) (
  jm_gc (pu_callS _ _) (sn_callS (jm_dc dc_169_0 9 rfl) lk_10_422) (
  jm_gc (pu_iret) (sn_iret (jm_dc dc_169_0 10 rfl) rfl) (
  jm_gc (pu_ic _ _) (sn_ldc (jm_dc dc_169_0 11 rfl) (kc_tb 622 (by decide +kernel))) (
  jm_gc (pu_iret) (sn_iret (jm_dc dc_169_0 12 rfl) rfl) (
  jm_gn)))))))))))))
def cd_122 (pc : Nat) : jm_O := if pc < 53 then jm_lu cl_122_0 pc else if pc < 108 then jm_lu cl_122_1 pc else jm_lu cl_122_2 pc
theorem ok_122 (pc : Nat) : jm_pu (cd_122 pc) ∧ jm_snd "FrescoWall" prog_1_method_1_code 1 (Option.none : Option Jvm.ClassFile.FieldType) true pc (cd_122 pc) := jm_if2 (jm_lu_ok _ gl_122_0 pc) (jm_if2 (jm_lu_ok _ gl_122_1 pc) (jm_lu_ok _ gl_122_2 pc))
def cd_123 (pc : Nat) : jm_O := if pc < 46 then jm_lu cl_123_0 pc else jm_lu cl_123_1 pc
theorem ok_123 (pc : Nat) : jm_pu (cd_123 pc) ∧ jm_snd "FrescoWall" prog_1_method_2_code 5 (Option.some Jvm.ClassFile.FieldType.int) false pc (cd_123 pc) := jm_if2 (jm_lu_ok _ gl_123_0 pc) (jm_lu_ok _ gl_123_1 pc)
def cd_124 (pc : Nat) : jm_O := if pc < 48 then jm_lu cl_124_0 pc else if pc < 100 then jm_lu cl_124_1 pc else jm_lu cl_124_2 pc
theorem ok_124 (pc : Nat) : jm_pu (cd_124 pc) ∧ jm_snd "FrescoWall" prog_1_method_3_code 6 (Option.some Jvm.ClassFile.FieldType.int) false pc (cd_124 pc) := jm_if2 (jm_lu_ok _ gl_124_0 pc) (jm_if2 (jm_lu_ok _ gl_124_1 pc) (jm_lu_ok _ gl_124_2 pc))
def cd_125 (pc : Nat) : jm_O := if pc < 83 then jm_lu cl_125_0 pc else jm_lu cl_125_1 pc
theorem ok_125 (pc : Nat) : jm_pu (cd_125 pc) ∧ jm_snd "FrescoWall" prog_1_method_4_code 4 (Option.some Jvm.ClassFile.FieldType.int) false pc (cd_125 pc) := jm_if2 (jm_lu_ok _ gl_125_0 pc) (jm_lu_ok _ gl_125_1 pc)
def cd_126 (pc : Nat) : jm_O := if pc < 68 then jm_lu cl_126_0 pc else jm_lu cl_126_1 pc
theorem ok_126 (pc : Nat) : jm_pu (cd_126 pc) ∧ jm_snd "FrescoWall" prog_1_method_5_code 5 (Option.some Jvm.ClassFile.FieldType.int) false pc (cd_126 pc) := jm_if2 (jm_lu_ok _ gl_126_0 pc) (jm_lu_ok _ gl_126_1 pc)
def cd_127 (pc : Nat) : jm_O := if pc < 46 then jm_lu cl_127_0 pc else jm_lu cl_127_1 pc
theorem ok_127 (pc : Nat) : jm_pu (cd_127 pc) ∧ jm_snd "FrescoWall" prog_1_method_6_code 6 (Option.some Jvm.ClassFile.FieldType.int) false pc (cd_127 pc) := jm_if2 (jm_lu_ok _ gl_127_0 pc) (jm_lu_ok _ gl_127_1 pc)
def cd_128 (pc : Nat) : jm_O := jm_lu cl_128_0 pc
theorem ok_128 (pc : Nat) : jm_pu (cd_128 pc) ∧ jm_snd "FrescoWall" prog_1_method_7_code 3 (Option.some Jvm.ClassFile.FieldType.int) false pc (cd_128 pc) := jm_lu_ok _ gl_128_0 pc
def cd_129 (pc : Nat) : jm_O := if pc < 46 then jm_lu cl_129_0 pc else jm_lu cl_129_1 pc
theorem ok_129 (pc : Nat) : jm_pu (cd_129 pc) ∧ jm_snd "FrescoWall" prog_1_method_8_code 5 (Option.some Jvm.ClassFile.FieldType.int) false pc (cd_129 pc) := jm_if2 (jm_lu_ok _ gl_129_0 pc) (jm_lu_ok _ gl_129_1 pc)
def cd_130 (pc : Nat) : jm_O := if pc < 45 then jm_lu cl_130_0 pc else jm_lu cl_130_1 pc
theorem ok_130 (pc : Nat) : jm_pu (cd_130 pc) ∧ jm_snd "FrescoWall" prog_1_method_9_code 8 (Option.some Jvm.ClassFile.FieldType.int) false pc (cd_130 pc) := jm_if2 (jm_lu_ok _ gl_130_0 pc) (jm_lu_ok _ gl_130_1 pc)
def cd_131 (pc : Nat) : jm_O := if pc < 45 then jm_lu cl_131_0 pc else jm_lu cl_131_1 pc
theorem ok_131 (pc : Nat) : jm_pu (cd_131 pc) ∧ jm_snd "FrescoWall" prog_1_method_10_code 8 (Option.some Jvm.ClassFile.FieldType.int) false pc (cd_131 pc) := jm_if2 (jm_lu_ok _ gl_131_0 pc) (jm_lu_ok _ gl_131_1 pc)
def cd_132 (pc : Nat) : jm_O := jm_lu cl_132_0 pc
theorem ok_132 (pc : Nat) : jm_pu (cd_132 pc) ∧ jm_snd "FrescoWall" prog_1_method_11_code 3 (Option.some Jvm.ClassFile.FieldType.int) false pc (cd_132 pc) := jm_lu_ok _ gl_132_0 pc
def cd_133 (pc : Nat) : jm_O := jm_lu cl_133_0 pc
theorem ok_133 (pc : Nat) : jm_pu (cd_133 pc) ∧ jm_snd "FrescoWall" prog_1_method_12_code 4 (Option.some Jvm.ClassFile.FieldType.int) false pc (cd_133 pc) := jm_lu_ok _ gl_133_0 pc
def cd_134 (pc : Nat) : jm_O := if pc < 43 then jm_lu cl_134_0 pc else if pc < 89 then jm_lu cl_134_1 pc else jm_lu cl_134_2 pc
theorem ok_134 (pc : Nat) : jm_pu (cd_134 pc) ∧ jm_snd "FrescoWall" prog_1_method_13_code 8 (Option.some Jvm.ClassFile.FieldType.int) false pc (cd_134 pc) := jm_if2 (jm_lu_ok _ gl_134_0 pc) (jm_if2 (jm_lu_ok _ gl_134_1 pc) (jm_lu_ok _ gl_134_2 pc))
def cd_135 (pc : Nat) : jm_O := if pc < 44 then jm_lu cl_135_0 pc else if pc < 94 then jm_lu cl_135_1 pc else jm_lu cl_135_2 pc
theorem ok_135 (pc : Nat) : jm_pu (cd_135 pc) ∧ jm_snd "FrescoWall" prog_1_method_14_code 9 (Option.some Jvm.ClassFile.FieldType.int) false pc (cd_135 pc) := jm_if2 (jm_lu_ok _ gl_135_0 pc) (jm_if2 (jm_lu_ok _ gl_135_1 pc) (jm_lu_ok _ gl_135_2 pc))
def cd_136 (pc : Nat) : jm_O := if pc < 49 then jm_lu cl_136_0 pc else jm_lu cl_136_1 pc
theorem ok_136 (pc : Nat) : jm_pu (cd_136 pc) ∧ jm_snd "FrescoWall" prog_1_method_15_code 2 (Option.some Jvm.ClassFile.FieldType.int) false pc (cd_136 pc) := jm_if2 (jm_lu_ok _ gl_136_0 pc) (jm_lu_ok _ gl_136_1 pc)
def cd_137 (pc : Nat) : jm_O := if pc < 76 then jm_lu cl_137_0 pc else jm_lu cl_137_1 pc
theorem ok_137 (pc : Nat) : jm_pu (cd_137 pc) ∧ jm_snd "FrescoWall" prog_1_method_16_code 3 (Option.some Jvm.ClassFile.FieldType.int) false pc (cd_137 pc) := jm_if2 (jm_lu_ok _ gl_137_0 pc) (jm_lu_ok _ gl_137_1 pc)
def cd_138 (pc : Nat) : jm_O := if pc < 67 then jm_lu cl_138_0 pc else jm_lu cl_138_1 pc
theorem ok_138 (pc : Nat) : jm_pu (cd_138 pc) ∧ jm_snd "FrescoWall" prog_1_method_17_code 4 (Option.some Jvm.ClassFile.FieldType.int) false pc (cd_138 pc) := jm_if2 (jm_lu_ok _ gl_138_0 pc) (jm_lu_ok _ gl_138_1 pc)
def cd_139 (pc : Nat) : jm_O := if pc < 77 then jm_lu cl_139_0 pc else jm_lu cl_139_1 pc
theorem ok_139 (pc : Nat) : jm_pu (cd_139 pc) ∧ jm_snd "FrescoWall" prog_1_method_18_code 2 (Option.some Jvm.ClassFile.FieldType.int) false pc (cd_139 pc) := jm_if2 (jm_lu_ok _ gl_139_0 pc) (jm_lu_ok _ gl_139_1 pc)
def cd_140 (pc : Nat) : jm_O := if pc < 47 then jm_lu cl_140_0 pc else jm_lu cl_140_1 pc
theorem ok_140 (pc : Nat) : jm_pu (cd_140 pc) ∧ jm_snd "FrescoWall" prog_1_method_19_code 6 (Option.some Jvm.ClassFile.FieldType.int) false pc (cd_140 pc) := jm_if2 (jm_lu_ok _ gl_140_0 pc) (jm_lu_ok _ gl_140_1 pc)
def cd_141 (pc : Nat) : jm_O := jm_lu cl_141_0 pc
theorem ok_141 (pc : Nat) : jm_pu (cd_141 pc) ∧ jm_snd "FrescoWall" prog_1_method_20_code 2 (Option.some Jvm.ClassFile.FieldType.int) false pc (cd_141 pc) := jm_lu_ok _ gl_141_0 pc
def cd_142 (pc : Nat) : jm_O := if pc < 44 then jm_lu cl_142_0 pc else jm_lu cl_142_1 pc
theorem ok_142 (pc : Nat) : jm_pu (cd_142 pc) ∧ jm_snd "FrescoWall" prog_1_method_21_code 6 (Option.some Jvm.ClassFile.FieldType.int) false pc (cd_142 pc) := jm_if2 (jm_lu_ok _ gl_142_0 pc) (jm_lu_ok _ gl_142_1 pc)
def cd_143 (pc : Nat) : jm_O := if pc < 50 then jm_lu cl_143_0 pc else jm_lu cl_143_1 pc
theorem ok_143 (pc : Nat) : jm_pu (cd_143 pc) ∧ jm_snd "FrescoWall" prog_1_method_22_code 2 (Option.some Jvm.ClassFile.FieldType.int) false pc (cd_143 pc) := jm_if2 (jm_lu_ok _ gl_143_0 pc) (jm_lu_ok _ gl_143_1 pc)
def cd_144 (pc : Nat) : jm_O := if pc < 46 then jm_lu cl_144_0 pc else jm_lu cl_144_1 pc
theorem ok_144 (pc : Nat) : jm_pu (cd_144 pc) ∧ jm_snd "FrescoWall" prog_1_method_23_code 3 (Option.some Jvm.ClassFile.FieldType.int) false pc (cd_144 pc) := jm_if2 (jm_lu_ok _ gl_144_0 pc) (jm_lu_ok _ gl_144_1 pc)
def cd_145 (pc : Nat) : jm_O := jm_lu cl_145_0 pc
theorem ok_145 (pc : Nat) : jm_pu (cd_145 pc) ∧ jm_snd "FrescoWall" prog_1_method_24_code 3 (Option.some Jvm.ClassFile.FieldType.int) false pc (cd_145 pc) := jm_lu_ok _ gl_145_0 pc
def cd_146 (pc : Nat) : jm_O := jm_lu cl_146_0 pc
theorem ok_146 (pc : Nat) : jm_pu (cd_146 pc) ∧ jm_snd "FrescoWall" prog_1_method_25_code 3 (Option.some Jvm.ClassFile.FieldType.int) false pc (cd_146 pc) := jm_lu_ok _ gl_146_0 pc
def cd_147 (pc : Nat) : jm_O := jm_lu cl_147_0 pc
theorem ok_147 (pc : Nat) : jm_pu (cd_147 pc) ∧ jm_snd "FrescoWall" prog_1_method_26_code 3 (Option.some Jvm.ClassFile.FieldType.int) false pc (cd_147 pc) := jm_lu_ok _ gl_147_0 pc
def cd_148 (pc : Nat) : jm_O := if pc < 52 then jm_lu cl_148_0 pc else jm_lu cl_148_1 pc
theorem ok_148 (pc : Nat) : jm_pu (cd_148 pc) ∧ jm_snd "FrescoWall" prog_1_method_27_code 5 (Option.some Jvm.ClassFile.FieldType.int) false pc (cd_148 pc) := jm_if2 (jm_lu_ok _ gl_148_0 pc) (jm_lu_ok _ gl_148_1 pc)
def cd_149 (pc : Nat) : jm_O := if pc < 47 then jm_lu cl_149_0 pc else jm_lu cl_149_1 pc
theorem ok_149 (pc : Nat) : jm_pu (cd_149 pc) ∧ jm_snd "FrescoWall" prog_1_method_28_code 5 (Option.some Jvm.ClassFile.FieldType.int) false pc (cd_149 pc) := jm_if2 (jm_lu_ok _ gl_149_0 pc) (jm_lu_ok _ gl_149_1 pc)
def cd_150 (pc : Nat) : jm_O := if pc < 52 then jm_lu cl_150_0 pc else jm_lu cl_150_1 pc
theorem ok_150 (pc : Nat) : jm_pu (cd_150 pc) ∧ jm_snd "FrescoWall" prog_1_method_29_code 3 (Option.some Jvm.ClassFile.FieldType.int) false pc (cd_150 pc) := jm_if2 (jm_lu_ok _ gl_150_0 pc) (jm_lu_ok _ gl_150_1 pc)
def cd_151 (pc : Nat) : jm_O := if pc < 44 then jm_lu cl_151_0 pc else jm_lu cl_151_1 pc
theorem ok_151 (pc : Nat) : jm_pu (cd_151 pc) ∧ jm_snd "FrescoWall" prog_1_method_30_code 3 (Option.some Jvm.ClassFile.FieldType.int) false pc (cd_151 pc) := jm_if2 (jm_lu_ok _ gl_151_0 pc) (jm_lu_ok _ gl_151_1 pc)
def cd_152 (pc : Nat) : jm_O := jm_lu cl_152_0 pc
theorem ok_152 (pc : Nat) : jm_pu (cd_152 pc) ∧ jm_snd "FrescoWall" prog_1_method_31_code 3 (Option.some Jvm.ClassFile.FieldType.int) false pc (cd_152 pc) := jm_lu_ok _ gl_152_0 pc
def cd_153 (pc : Nat) : jm_O := if pc < 52 then jm_lu cl_153_0 pc else jm_lu cl_153_1 pc
theorem ok_153 (pc : Nat) : jm_pu (cd_153 pc) ∧ jm_snd "FrescoWall" prog_1_method_32_code 3 (Option.some Jvm.ClassFile.FieldType.int) false pc (cd_153 pc) := jm_if2 (jm_lu_ok _ gl_153_0 pc) (jm_lu_ok _ gl_153_1 pc)
def cd_154 (pc : Nat) : jm_O := if pc < 41 then jm_lu cl_154_0 pc else jm_lu cl_154_1 pc
theorem ok_154 (pc : Nat) : jm_pu (cd_154 pc) ∧ jm_snd "FrescoWall" prog_1_method_33_code 4 (Option.some Jvm.ClassFile.FieldType.int) false pc (cd_154 pc) := jm_if2 (jm_lu_ok _ gl_154_0 pc) (jm_lu_ok _ gl_154_1 pc)
def cd_155 (pc : Nat) : jm_O := if pc < 50 then jm_lu cl_155_0 pc else jm_lu cl_155_1 pc
theorem ok_155 (pc : Nat) : jm_pu (cd_155 pc) ∧ jm_snd "FrescoWall" prog_1_method_34_code 4 (Option.some Jvm.ClassFile.FieldType.int) false pc (cd_155 pc) := jm_if2 (jm_lu_ok _ gl_155_0 pc) (jm_lu_ok _ gl_155_1 pc)
def cd_156 (pc : Nat) : jm_O := if pc < 47 then jm_lu cl_156_0 pc else jm_lu cl_156_1 pc
theorem ok_156 (pc : Nat) : jm_pu (cd_156 pc) ∧ jm_snd "FrescoWall" prog_1_method_35_code 5 (Option.some Jvm.ClassFile.FieldType.int) false pc (cd_156 pc) := jm_if2 (jm_lu_ok _ gl_156_0 pc) (jm_lu_ok _ gl_156_1 pc)
def cd_157 (pc : Nat) : jm_O := if pc < 46 then jm_lu cl_157_0 pc else jm_lu cl_157_1 pc
theorem ok_157 (pc : Nat) : jm_pu (cd_157 pc) ∧ jm_snd "FrescoWall" prog_1_method_36_code 5 (Option.some Jvm.ClassFile.FieldType.int) false pc (cd_157 pc) := jm_if2 (jm_lu_ok _ gl_157_0 pc) (jm_lu_ok _ gl_157_1 pc)
def cd_158 (pc : Nat) : jm_O := if pc < 46 then jm_lu cl_158_0 pc else jm_lu cl_158_1 pc
theorem ok_158 (pc : Nat) : jm_pu (cd_158 pc) ∧ jm_snd "FrescoWall" prog_1_method_37_code 3 (Option.some Jvm.ClassFile.FieldType.int) false pc (cd_158 pc) := jm_if2 (jm_lu_ok _ gl_158_0 pc) (jm_lu_ok _ gl_158_1 pc)
def cd_159 (pc : Nat) : jm_O := if pc < 101 then jm_lu cl_159_0 pc else jm_lu cl_159_1 pc
theorem ok_159 (pc : Nat) : jm_pu (cd_159 pc) ∧ jm_snd "FrescoWall" prog_1_method_38_code 2 (Option.some Jvm.ClassFile.FieldType.int) false pc (cd_159 pc) := jm_if2 (jm_lu_ok _ gl_159_0 pc) (jm_lu_ok _ gl_159_1 pc)
def cd_160 (pc : Nat) : jm_O := jm_lu cl_160_0 pc
theorem ok_160 (pc : Nat) : jm_pu (cd_160 pc) ∧ jm_snd "FrescoWall" prog_1_method_39_code 2 (Option.some Jvm.ClassFile.FieldType.boolean) false pc (cd_160 pc) := jm_lu_ok _ gl_160_0 pc
def cd_161 (pc : Nat) : jm_O := jm_lu cl_161_0 pc
theorem ok_161 (pc : Nat) : jm_pu (cd_161 pc) ∧ jm_snd "FrescoWall" prog_1_method_40_code 3 (Option.some Jvm.ClassFile.FieldType.boolean) false pc (cd_161 pc) := jm_lu_ok _ gl_161_0 pc
def cd_162 (pc : Nat) : jm_O := jm_lu cl_162_0 pc
theorem ok_162 (pc : Nat) : jm_pu (cd_162 pc) ∧ jm_snd "FrescoWall" prog_1_method_41_code 2 (Option.some Jvm.ClassFile.FieldType.boolean) false pc (cd_162 pc) := jm_lu_ok _ gl_162_0 pc
def cd_163 (pc : Nat) : jm_O := jm_lu cl_163_0 pc
theorem ok_163 (pc : Nat) : jm_pu (cd_163 pc) ∧ jm_snd "FrescoWall" prog_1_method_42_code 5 (Option.some Jvm.ClassFile.FieldType.int) false pc (cd_163 pc) := jm_lu_ok _ gl_163_0 pc
def cd_164 (pc : Nat) : jm_O := jm_lu cl_164_0 pc
theorem ok_164 (pc : Nat) : jm_pu (cd_164 pc) ∧ jm_snd "FrescoWall" prog_1_method_43_code 1 (Option.some Jvm.ClassFile.FieldType.boolean) false pc (cd_164 pc) := jm_lu_ok _ gl_164_0 pc
def cd_165 (pc : Nat) : jm_O := jm_lu cl_165_0 pc
theorem ok_165 (pc : Nat) : jm_pu (cd_165 pc) ∧ jm_snd "FrescoWall" prog_1_method_44_code 1 (Option.some Jvm.ClassFile.FieldType.boolean) false pc (cd_165 pc) := jm_lu_ok _ gl_165_0 pc
def cd_166 (pc : Nat) : jm_O := jm_lu cl_166_0 pc
theorem ok_166 (pc : Nat) : jm_pu (cd_166 pc) ∧ jm_snd "FrescoWall" prog_1_method_45_code 3 (Option.some Jvm.ClassFile.FieldType.boolean) false pc (cd_166 pc) := jm_lu_ok _ gl_166_0 pc
def cd_167 (pc : Nat) : jm_O := jm_lu cl_167_0 pc
theorem ok_167 (pc : Nat) : jm_pu (cd_167 pc) ∧ jm_snd "FrescoWall" prog_1_method_46_code 1 (Option.some Jvm.ClassFile.FieldType.boolean) false pc (cd_167 pc) := jm_lu_ok _ gl_167_0 pc
def cd_168 (pc : Nat) : jm_O := jm_lu cl_168_0 pc
theorem ok_168 (pc : Nat) : jm_pu (cd_168 pc) ∧ jm_snd "FrescoWall" prog_1_method_47_code 1 (Option.some Jvm.ClassFile.FieldType.boolean) false pc (cd_168 pc) := jm_lu_ok _ gl_168_0 pc
def cd_169 (pc : Nat) : jm_O := jm_lu cl_169_0 pc
theorem ok_169 (pc : Nat) : jm_pu (cd_169 pc) ∧ jm_snd "FrescoWall" prog_1_method_48_code 3 (Option.some Jvm.ClassFile.FieldType.int) false pc (cd_169 pc) := jm_lu_ok _ gl_169_0 pc
